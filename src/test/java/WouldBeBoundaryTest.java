import java.math.BigInteger;

/** The promises 26 to 32, what would be: each boundary case that they name, in a test of its own. */
public final class WouldBeBoundaryTest extends Suite {
    private WouldBeBoundaryTest() {
    }

    public static void main(String[] args) {
        new WouldBeBoundaryTest().runAll();
    }

    // ---- Promise 26: wouldFall

    void wouldFallTakesTheBalls0To4() {
        takesNumbersBelow(5, Suite::begun, (x, ball) -> x.wouldFall(ball, 1));
    }

    void wouldFallTakesTheLanes0To4() {
        takesNumbersBelow(5, Suite::begun, (x, lane) -> x.wouldFall(1, lane));
    }

    void wouldFallRefusesAWrongBallAlongAWrongLane() {
        refuses("wouldFall(5, 5)", OUT_OF_BOUNDS, Suite::begun, x -> x.wouldFall(5, 5));
    }

    void wouldFallTakesABallThatIsAway() {
        SkittleStrings x = begun();
        checks.same("wouldFall(4, 1), away for two throws", 1, x.wouldFall(4, 1));
        x.throwBall(0, 0);
        checks.same("wouldFall(4, 1), away for one throw", 1, x.wouldFall(4, 1));
    }

    void wouldFallTells0IfNoneWould() {
        checks.same("wouldFall(4, 2)", 0, begun().wouldFall(4, 2));
        checks.same("wouldFall(4, 2) with all broken", 0, brokenAlley().wouldFall(4, 2));
    }

    void wouldFallIsToldWithoutPlayersAndBehindTheGame() {
        checks.same("wouldFall(4, 2) without players", 7, new SkittleStrings().wouldFall(4, 2));
        checks.same("wouldFall(4, 1) behind the game", 1, finishedGame().wouldFall(4, 1));
        checks.same("wouldFall(4, 1) behind a cleared last frame", 0, finishedGameOfSpares().wouldFall(4, 1));
    }

    void wouldFallDoesNotTellANewStringAheadOfTheNextFrame() {
        SkittleStrings x = begun();
        x.replaceString(8);
        checks.same("wouldFall(4, 2)", 0, x.wouldFall(4, 2));
    }

    void wouldFallChangesNothing() {
        changesNothing(x -> x.wouldFall(0, 1));
    }

    // ---- Promise 27: lastToFall

    void lastToFallTakesTheBalls0To4() {
        takesNumbersBelow(5, Suite::begun, (x, ball) -> x.lastToFall(ball, 1));
    }

    void lastToFallTakesTheLanes0To4() {
        takesNumbersBelow(5, Suite::begun, (x, lane) -> x.lastToFall(1, lane));
    }

    void lastToFallRefusesAWrongBallAlongAWrongLane() {
        refuses("lastToFall(5, 5)", OUT_OF_BOUNDS, Suite::begun, x -> x.lastToFall(5, 5));
    }

    void lastToFallTellsMinus1IfNoneWould() {
        checks.same("lastToFall(4, 2)", -1, begun().lastToFall(4, 2));
        checks.same("lastToFall(4, 2) with all broken", -1, brokenAlley().lastToFall(4, 2));
    }

    void lastToFallTellsThePin0() {
        checks.same("lastToFall(0, 2)", 0, alleyOf(1, "0").lastToFall(0, 2));
    }

    void lastToFallTellsThePin8() {
        checks.same("lastToFall(0, 2)", 8, alleyOf(1, "08").lastToFall(0, 2));
    }

    void lastToFallTellsTheGreatestNumberAndNotTheLastHit() {
        // The pin 1 falls, and by it the pin 3; only then the pin 2.
        checks.same("lastToFall(3, 2)", 3, alleyOf(1, "0123").lastToFall(3, 2));
    }

    void lastToFallTakesABallThatIsAway() {
        checks.same("lastToFall(4, 3)", 7, begun().lastToFall(4, 3));
    }

    void lastToFallIsToldWithoutPlayersAndBehindTheGame() {
        checks.same("lastToFall(0, 0) without players", 3, new SkittleStrings().lastToFall(0, 0));
        checks.same("lastToFall(0, 1) behind the game", 6, finishedGame().lastToFall(0, 1));
    }

    void lastToFallChangesNothing() {
        changesNothing(x -> x.lastToFall(0, 1));
    }

    // ---- Promise 28: bestThrow

    void bestThrowTellsTheSmallestNumberOfSeveral() {
        checks.same("bestThrow() of nine: 22, 32 and 42 fell 7", 22, new SkittleStrings().bestThrow());
        checks.same("bestThrow() of the pins 3 and 5", 0, alleyOf(1, "35").bestThrow());
        checks.same("bestThrow() of the pin 5", 4, alleyOf(1, "5").bestThrow());
    }

    void bestThrowTellsTheSmallestBallAndLaneIfNoPinWouldFall() {
        checks.same("bestThrow()", 0, alleyOf(1, "").bestThrow());
    }

    void bestThrowPassesOverABallAwayForTwoThrowsAndForOne() {
        SkittleStrings x = alleyOf(1, "");
        x.throwBall(0, 0);
        checks.same("bestThrow() without the ball 0", 10, x.bestThrow());
        x.throwBall(1, 0);
        checks.same("bestThrow() without the balls 0 and 1", 20, x.bestThrow());
        x.throwBall(2, 0);
        checks.same("bestThrow() with the ball 0 again", 0, x.bestThrow());
    }

    void bestThrowPassesOverBallsThatWouldFellAsManyWithASmallerNumber() {
        SkittleStrings x = alley(1);
        x.throwBall(2, 0);
        x.throwBall(3, 0);
        checks.same("balls", "0 0 1 2 0", away(x));
        checks.same("standing", "0124578", pinsThatStand(x));
        checks.same("wouldFall(2, 2)", 6, x.wouldFall(2, 2));
        checks.same("wouldFall(3, 2)", 6, x.wouldFall(3, 2));
        checks.same("wouldFall(4, 2)", 6, x.wouldFall(4, 2));
        checks.same("bestThrow()", 42, x.bestThrow());
    }

    void bestThrowPassesOverBallsThatWouldFellMore() {
        SkittleStrings x = alleyOf(1, "013");
        x.throwBall(3, 4);
        x.throwBall(4, 4);
        checks.same("wouldFall(3, 2), away", 3, x.wouldFall(3, 2));
        checks.same("wouldFall(0, 2)", 1, x.wouldFall(0, 2));
        checks.same("bestThrow()", 11, x.bestThrow());
    }

    void bestThrowIsToldWithoutPlayersAndBehindTheGame() {
        checks.same("bestThrow() without players", 22, new SkittleStrings().bestThrow());
        checks.same("bestThrow() behind the game", 1, finishedGame().bestThrow());
    }

    void bestThrowFindsABallInEveryGame() {
        // No more than two balls are away at once, so the -1 for all balls can't come.
        SkittleStrings x = alley(1);
        for (int i = 0; i < 30; i++) {
            checks.same("a ball behind throw " + i, true, x.bestThrow() >= 0);
            roll(x, i % 5);
        }
    }

    void bestThrowChangesNothing() {
        changesNothing(SkittleStrings::bestThrow);
    }

    // ---- Promise 29: throwsToClear

    void throwsToClearTells0IfNoneStands() {
        checks.same("throwsToClear() with all broken", 0, brokenAlley().throwsToClear());
        checks.same("throwsToClear() behind a cleared last frame", 0, finishedGameOfSpares().throwsToClear());
    }

    void throwsToClearTells1() {
        for (int pin = 0; pin < 9; pin++) {
            checks.same("throwsToClear() of the pin " + pin, 1, alleyOf(1, "" + pin).throwsToClear());
        }
        checks.same("throwsToClear() of 0, 1 and 3", 1, alleyOf(1, "013").throwsToClear());
    }

    void throwsToClearTells2() {
        checks.same("throwsToClear() of all", 2, new SkittleStrings().throwsToClear());
        checks.same("throwsToClear() of 3 and 5", 2, alleyOf(1, "35").throwsToClear());
    }

    void throwsToClearTells3() {
        checks.same("throwsToClear() of 3, 4 and 5", 3, alleyOf(1, "345").throwsToClear());
    }

    void throwsToClearTakesBallsThatAreAway() {
        // Only the balls 3 and 4 clear these with one throw, and both are away.
        SkittleStrings x = alleyOf(1, "013");
        x.throwBall(3, 4);
        x.throwBall(4, 4);
        checks.same("balls", "0 0 0 1 2", away(x));
        checks.same("throwsToClear()", 1, x.throwsToClear());
    }

    void throwsToClearIsToldMoreThanTheFrameHasThrowsLeft() {
        SkittleStrings x = alleyOf(1, "345");
        roll(x, 1, 2);
        checks.same("throws in the frame", 2, x.throwsInFrame());
        checks.same("throwsToClear()", 3, x.throwsToClear());
    }

    void throwsToClearIsToldWithoutPlayersAndBehindTheGame() {
        checks.same("throwsToClear() without players", 2, new SkittleStrings().throwsToClear());
        checks.same("throwsToClear() behind the game", 2, finishedGame().throwsToClear());
    }

    void throwsToClearChangesNothing() {
        changesNothing(SkittleStrings::throwsToClear);
    }

    // ---- Promise 30: wouldBreak

    void wouldBreakTells0AtFirst() {
        checks.same("wouldBreak()", 0, new SkittleStrings().wouldBreak());
    }

    void wouldBreakTellsNothingOfAStringWornBy10() {
        checks.same("wouldBreak(), of eight broken ones", 8, pin8WornBy(10).wouldBreak());
    }

    void wouldBreakTellsAStandingPinWithAStringWornBy11() {
        checks.same("wouldBreak()", 9, pin8WornBy(11).wouldBreak());
    }

    void wouldBreakTellsNothingOfAFallenPinWithAStringWornBy11() {
        SkittleStrings x = pin8WornBy(10);
        replaceAll(x, "3");
        x.newGame();
        x.throwBall(0, 2);
        checks.same("the wear", 11, x.wearOf(8));
        checks.same("standing", "3", pinsThatStand(x));
        checks.same("wouldBreak(), of seven broken ones", 7, x.wouldBreak());
    }

    void wouldBreakTells9OfAllBroken() {
        checks.same("wouldBreak()", 9, brokenAlley().wouldBreak());
    }

    void wouldBreakTellsOneLessBehindANewString() {
        SkittleStrings x = pin8WornBy(11);
        x.replaceString(8);
        checks.same("wouldBreak()", 8, x.wouldBreak());
    }

    void wouldBreakChangesNothing() {
        changesNothing(SkittleStrings::wouldBreak);
    }

    // ---- Promise 31: meanScore

    void meanScoreTells0WithoutPlayers() {
        checks.same("meanScore()", 0.0, new SkittleStrings().meanScore());
    }

    void meanScoreTells0AheadOfAllThrows() {
        checks.same("meanScore()", 0.0, alley(4).meanScore());
    }

    void meanScoreTellsTheScoreOfOne() {
        checks.same("meanScore()", 7.0, begun().meanScore());
    }

    void meanScoreIsNotRounded() {
        SkittleStrings x = alley(2);
        onePinFrame(x);
        checks.same("meanScore() of 1 and 0", 0.5, x.meanScore());
        SkittleStrings three = alley(3);
        sevenFrame(three);
        checks.same("meanScore() of 7, 0 and 0", 7.0 / 3.0, three.meanScore());
    }

    void meanScoreTellsAllPlayersToTheLast() {
        SkittleStrings x = alley(4);
        for (int i = 0; i < 3; i++) {
            onePinFrame(x);
        }
        x.throwBall(4, 2);
        checks.same("meanScore() of 1, 1, 1 and 7", 2.5, x.meanScore());
    }

    void meanScoreChangesNothing() {
        changesNothing(SkittleStrings::meanScore);
    }

    // ---- Promise 32: digest

    void digestIsToldWithoutPlayers() {
        long due = digestOf("0 -1 0 0 3 22 2", "1 0 1 0 1 0 1 0 1 0 1 0 1 0 1 0 1 0", "0 0 0 0 0");
        checks.same("digest()", due, new SkittleStrings().digest());
    }

    void digestIsToldWithinAFrame() {
        long due = digestOf("1 0 0 1 3 1 2", "0 1 0 1 0 1 0 1 0 1 0 1 1 0 1 0 0 1", "0 0 0 0 2",
                "1 7 0 0 7 0 0 0 0 0 0 0 0 0");
        checks.same("digest()", due, begun().digest());
    }

    void digestIsToldBehindTheGame() {
        long due = digestOf("1 -1 10 0 3 1 2", "0 10 0 10 0 10 0 10 0 10 0 10 1 0 1 0 0 10", "0 0 2 1 0",
                "30 70 0 0 7 7 7 7 7 7 7 7 7 7");
        checks.same("digest()", due, finishedGame().digest());
    }

    void digestIsToldOfAStrikeAndASpare() {
        SkittleStrings x = alleyOf(2, "01");
        x.throwBall(1, 2);
        x.throwBall(0, 2);
        x.throwBall(2, 1);
        long due = digestOf("2 0 1 0 3 12 1", "1 2 1 2 0 12 0 12 0 12 0 12 0 12 0 12 0 12", "1 0 2 0 0",
                "1 2 1 0 2 0 0 0 0 0 0 0 0 0", "2 2 0 1 2 0 0 0 0 0 0 0 0 0");
        checks.same("digest()", due, x.digest());
    }

    void digestIsToldOfFourPlayers() {
        String none = "0 0 0 0 0 0 0 0 0 0 0 0 0 0";
        long due = digestOf("4 0 0 0 3 22 2", "1 0 1 0 1 0 1 0 1 0 1 0 1 0 1 0 1 0", "0 0 0 0 0",
                none, none, none, none);
        checks.same("digest()", due, alley(4).digest());
    }

    void digestWrapsAround() {
        BigInteger d = BigInteger.valueOf(1999);
        String told = "1 0 0 0 3 22 2 1 0 1 0 1 0 1 0 1 0 1 0 1 0 1 0 1 0 0 0 0 0 0 0 0 0 0 0 0 0 0 0 0 0 0 0 0";
        for (String one : told.split(" ")) {
            d = d.multiply(BigInteger.valueOf(31)).add(new BigInteger(one));
        }
        checks.same("a number of more than 64 bits", true, d.bitLength() > 64);
        checks.same("digest()", d.longValue(), alley(1).digest());
    }

    void digestChangesNothing() {
        changesNothing(SkittleStrings::digest);
    }

    /** The numbers in their order: of the game, of the pins, of the balls, and of each player. */
    private static long digestOf(String... rows) {
        long d = 1999;
        for (String one : String.join(" ", rows).split(" ")) {
            d = d * 31 + Long.parseLong(one);
        }
        return d;
    }
}
