/** 'What it is' and the promises 1 to 6, the game: each boundary case that they name, in a test of its own. */
public final class GameBoundaryTest extends Suite {
    private GameBoundaryTest() {
    }

    public static void main(String[] args) {
        new GameBoundaryTest().runAll();
    }

    // ---- "An object is used for at most 512 calls after it has been made"

    void anObjectAnswersToItsLastOf512Calls() {
        SkittleStrings x = new SkittleStrings();
        checks.same("call 1: addPlayer()", 0, x.addPlayer());
        // 16 games of 31 calls; the pin 3 falls once in each frame, until its string breaks with the 12th.
        for (int frame = 0; frame < 160; frame++) {
            checks.same("the first throw of frame " + frame, frame < 12 ? 1 : 0, x.throwBall(0, 0));
            checks.same("the second one", 0, x.throwBall(1, 0));
            checks.same("the third one", 0, x.throwBall(2, 0));
            if (frame % 10 == 9) {
                checks.same("newGame() behind frame " + frame, 0, x.newGame());
            }
        }
        for (int call = 498; call <= 510; call++) {
            checks.same("call " + call + ": buyStrings(20)", 3 + 20 * (call - 497), x.buyStrings(20));
        }
        checks.same("call 511: throwBall(4, 2), without the pin 3", 6, x.throwBall(4, 2));
        checks.same("call 512: wearOf(3)", 12, x.wearOf(3));
    }

    // ---- Promise 1: "Creates an alley without players; all pins stand, no ball is away."

    void aNewAlleyHasNoPlayers() {
        checks.same("players", 0, new SkittleStrings().players());
    }

    void inANewAlleyAllPinsStand() {
        checks.same("standing", "012345678", pinsThatStand(new SkittleStrings()));
    }

    void inANewAlleyNoBallIsAway() {
        checks.same("balls", "0 0 0 0 0", away(new SkittleStrings()));
    }

    void aNewAlleyHas3SpareStrings() {
        checks.same("spare strings", 3, new SkittleStrings().spareStrings());
    }

    void aNewAlleyIsNotThatOfAnotherObject() {
        SkittleStrings x = new SkittleStrings();
        String before = goOn(new SkittleStrings());
        SkittleStrings other = begun();
        other.replaceString(0);
        checks.same("the game", before, goOn(x));
    }

    // ---- Promise 2: addPlayer

    void newPlayersHaveTheNumbers0To3() {
        SkittleStrings x = new SkittleStrings();
        for (int player = 0; player < 4; player++) {
            checks.same("addPlayer()", player, x.addPlayer());
        }
    }

    void aFifthPlayerIsRefused() {
        refuses("addPlayer()", BAD_STATE, () -> alley(4), SkittleStrings::addPlayer);
    }

    void aPlayerIsRefusedBehindTheFirstThrow() {
        refuses("addPlayer()", BAD_STATE, Suite::begun, SkittleStrings::addPlayer);
    }

    void aPlayerIsRefusedBehindAThrowWithoutPins() {
        refuses("addPlayer()", BAD_STATE, () -> {
            SkittleStrings x = alleyOf(1, "8");
            x.throwBall(0, 0);
            return x;
        }, SkittleStrings::addPlayer);
    }

    void aPlayerIsRefusedBehindTheFirstFrame() {
        refuses("addPlayer()", BAD_STATE, () -> {
            SkittleStrings x = alley(3);
            sevenFrame(x);
            return x;
        }, SkittleStrings::addPlayer);
    }

    void aPlayerIsRefusedBehindTheGame() {
        refuses("addPlayer()", BAD_STATE, Suite::finishedGame, SkittleStrings::addPlayer);
    }

    void aFifthPlayerIsRefusedBehindAThrowToo() {
        refuses("addPlayer()", BAD_STATE, () -> {
            SkittleStrings x = alley(4);
            x.throwBall(0, 0);
            return x;
        }, SkittleStrings::addPlayer);
    }

    void aPlayerIsTakenBehindARefusedThrow() {
        SkittleStrings x = new SkittleStrings();
        checks.badState("throwBall without players", () -> x.throwBall(0, 0));
        checks.same("addPlayer()", 0, x.addPlayer());
        checks.outOfBounds("throwBall(5, 0)", () -> x.throwBall(5, 0));
        checks.same("addPlayer()", 1, x.addPlayer());
    }

    void aPlayerIsTakenBehindAllThatIsNoThrow() {
        SkittleStrings x = alley(1);
        x.replaceString(8);
        x.buyStrings(1);
        x.wouldFall(4, 2);
        x.lastToFall(4, 2);
        x.bestThrow();
        x.throwsToClear();
        x.newGame();
        checks.same("addPlayer()", 1, x.addPlayer());
    }

    void aPlayerIsTakenInANewGame() {
        SkittleStrings x = finishedGame();
        x.newGame();
        checks.same("addPlayer()", 1, x.addPlayer());
        checks.same("players", 2, x.players());
        checks.same("its throws", 0, x.throwsOf(1));
        checks.same("its score", 0, x.scoreOf(1));
    }

    void aFifthPlayerIsRefusedInANewGame() {
        refuses("addPlayer()", BAD_STATE, () -> alleyOf(4, "08"), SkittleStrings::addPlayer);
    }

    // ---- Promise 3: throwBall

    void throwBallTakesTheBalls0To4() {
        takesNumbersBelow(5, () -> alley(1), (x, ball) -> x.throwBall(ball, 2));
    }

    void throwBallTakesTheLanes0To4() {
        takesNumbersBelow(5, () -> alley(1), (x, lane) -> x.throwBall(2, lane));
    }

    void throwBallRefusesAWrongBallAlongAWrongLane() {
        refuses("throwBall(-1, 5)", OUT_OF_BOUNDS, () -> alley(1), x -> x.throwBall(-1, 5));
    }

    void throwBallIsRefusedWithoutPlayers() {
        refuses("throwBall(0, 0)", BAD_STATE, SkittleStrings::new, x -> x.throwBall(0, 0));
    }

    void throwBallIsRefusedBehindTheGame() {
        refuses("throwBall(0, 1)", BAD_STATE, Suite::finishedGame, x -> x.throwBall(0, 1));
    }

    void throwBallIsRefusedBehindTheGameOfFour() {
        refuses("throwBall(0, 1)", BAD_STATE, () -> finishedGame(4), x -> x.throwBall(0, 1));
    }

    void throwBallIsRefusedOfABallAwayForTwoThrows() {
        refuses("throwBall(4, 1)", BAD_STATE, Suite::begun, x -> x.throwBall(4, 1));
    }

    void throwBallIsRefusedOfABallAwayForOneThrow() {
        refuses("throwBall(4, 1)", BAD_STATE, () -> {
            SkittleStrings x = begun();
            x.throwBall(0, 0);
            return x;
        }, x -> x.throwBall(4, 1));
    }

    void throwBallIsRefusedOfABallThatAnotherPlayerThrew() {
        refuses("throwBall(1, 2)", BAD_STATE, () -> {
            SkittleStrings x = alleyOf(2, "8");
            x.throwBall(1, 2);
            return x;
        }, x -> x.throwBall(1, 2));
    }

    void throwBallIsTakenAgainAfterTwoMoreThrows() {
        SkittleStrings x = begun();
        x.throwBall(0, 1);
        x.throwBall(1, 3);
        checks.same("throwBall(4, 2)", 7, x.throwBall(4, 2));
    }

    void throwBallNamesAnIndexAheadOfNoPlayers() {
        refuses("throwBall(5, 0)", OUT_OF_BOUNDS, SkittleStrings::new, x -> x.throwBall(5, 0));
        refuses("throwBall(0, 5)", OUT_OF_BOUNDS, SkittleStrings::new, x -> x.throwBall(0, 5));
    }

    void throwBallNamesAnIndexAheadOfTheEndOfTheGame() {
        refuses("throwBall(-1, 0)", OUT_OF_BOUNDS, Suite::finishedGame, x -> x.throwBall(-1, 0));
        refuses("throwBall(0, -1)", OUT_OF_BOUNDS, Suite::finishedGame, x -> x.throwBall(0, -1));
    }

    void throwBallNamesAnIndexAheadOfABallThatIsAway() {
        refuses("throwBall(4, -1)", OUT_OF_BOUNDS, Suite::begun, x -> x.throwBall(4, -1));
        refuses("throwBall(4, 5)", OUT_OF_BOUNDS, Suite::begun, x -> x.throwBall(4, 5));
    }

    void throwBallAnswers0IfNoPinFalls() {
        checks.same("throwBall(4, 2)", 0, alleyOf(1, "67").throwBall(4, 2));
    }

    void throwBallAnswersThePinsOfAFrameThatItEnds() {
        checks.same("throwBall(1, 2)", 2, alleyOf(1, "01").throwBall(1, 2));
    }

    // ---- Promise 4: replaceString

    void replaceStringTakesThePins0To8() {
        takesNumbersBelow(9, Suite::begun, SkittleStrings::replaceString);
    }

    void replaceStringAnswers0ForTheLastSpareString() {
        SkittleStrings x = alley(1);
        checks.same("the first", 2, x.replaceString(0));
        checks.same("the second", 1, x.replaceString(4));
        checks.same("the last", 0, x.replaceString(8));
    }

    void replaceStringIsRefusedWithoutSpareStrings() {
        refuses("replaceString(8)", BAD_STATE, Suite::withoutSpareStrings, x -> x.replaceString(8));
    }

    void replaceStringNamesAnIndexAheadOfNoSpareString() {
        refuses("replaceString(9)", OUT_OF_BOUNDS, Suite::withoutSpareStrings, x -> x.replaceString(9));
        refuses("replaceString(-1)", OUT_OF_BOUNDS, Suite::withoutSpareStrings, x -> x.replaceString(-1));
    }

    void replaceStringIsTakenAgainWithABoughtString() {
        SkittleStrings x = withoutSpareStrings();
        x.buyStrings(1);
        checks.same("replaceString(8)", 0, x.replaceString(8));
        checks.badState("and no further one", () -> x.replaceString(8));
    }

    void replaceStringSetsTheWear0() {
        SkittleStrings x = begun();
        x.replaceString(0);
        checks.same("wears", "0 1 1 1 1 1 0 0 1", wears(x));
    }

    void replaceStringOfAnUnwornStringTakesASpareOne() {
        SkittleStrings x = alley(1);
        checks.same("replaceString(3)", 2, x.replaceString(3));
        checks.same("the wear", 0, x.wearOf(3));
    }

    void replaceStringMendsABrokenString() {
        SkittleStrings x = pin8WornBy(12);
        x.replaceString(8);
        checks.same("broken", false, x.isBroken(8));
        checks.same("the wear", 0, x.wearOf(8));
    }

    void aNewStringHoldsFor11HitsAndBreaksWithThe12th() {
        SkittleStrings x = pin8WornBy(12);
        x.replaceString(8);
        x.newGame();
        roll(x, 2, 10);
        x.newGame();
        roll(x, 2);
        checks.same("broken behind 11 hits", false, x.isBroken(8));
        roll(x, 2);
        checks.same("broken behind 12 hits", true, x.isBroken(8));
    }

    // "The pin stands again as the next frame begins."

    void aFallenPinWithANewStringDoesNotStandInThisFrame() {
        SkittleStrings x = begun();
        x.replaceString(8);
        checks.same("standing", "67", pinsThatStand(x));
        x.throwBall(0, 1);
        checks.same("standing behind another throw", "7", pinsThatStand(x));
    }

    void aBrokenPinWithANewStringDoesNotStandAheadOfTheFirstThrowOfAFrame() {
        SkittleStrings x = alleyOf(1, "01");
        x.replaceString(8);
        checks.same("throws in the frame", 0, x.throwsInFrame());
        checks.same("standing", "01", pinsThatStand(x));
    }

    void aBrokenPinWithANewStringStandsAsTheNextFrameBegins() {
        SkittleStrings x = alleyOf(1, "01");
        x.replaceString(8);
        roll(x, 0, 3);
        checks.same("standing", "018", pinsThatStand(x));
    }

    void aBrokenPinWithANewStringStandsInTheFrameOfTheNextPlayer() {
        SkittleStrings x = alleyOf(2, "01");
        x.replaceString(8);
        x.throwBall(1, 2);
        checks.same("the turn", 1, x.playerInTurn());
        checks.same("standing", "018", pinsThatStand(x));
    }

    void aPinThatStandsKeepsStandingWithANewString() {
        SkittleStrings x = begun();
        x.replaceString(6);
        checks.same("standing", "67", pinsThatStand(x));
    }

    void aPinWithANewStringBehindTheGameStandsInTheNewGameOnly() {
        SkittleStrings x = finishedGame();
        x.replaceString(8);
        checks.same("standing", "67", pinsThatStand(x));
        x.newGame();
        checks.same("standing in the new game", "012345678", pinsThatStand(x));
    }

    void replaceStringIsTakenWithoutPlayers() {
        checks.same("replaceString(0)", 2, new SkittleStrings().replaceString(0));
    }

    void replaceStringIsNoThrow() {
        SkittleStrings x = begun();
        x.replaceString(0);
        checks.same("throws in the frame", 1, x.throwsInFrame());
        checks.same("balls", "0 0 0 0 2", away(x));
        checks.same("score", 7, x.scoreOf(0));
    }

    // ---- Promise 5: buyStrings

    void buyStringsTakes1() {
        checks.same("buyStrings(1)", 4, new SkittleStrings().buyStrings(1));
    }

    void buyStringsTakes20() {
        checks.same("buyStrings(20)", 23, new SkittleStrings().buyStrings(20));
    }

    void buyStringsRefuses0() {
        refuses("buyStrings(0)", BAD_ARGUMENT, Suite::begun, x -> x.buyStrings(0));
    }

    void buyStringsRefuses21() {
        refuses("buyStrings(21)", BAD_ARGUMENT, Suite::begun, x -> x.buyStrings(21));
    }

    void buyStringsRefusesNumbersFarOff() {
        for (int wrong : new int[] {-1, Integer.MIN_VALUE, Integer.MAX_VALUE}) {
            refuses("buyStrings(" + wrong + ")", BAD_ARGUMENT, Suite::begun, x -> x.buyStrings(wrong));
        }
    }

    void buyStringsAnswersHowManyThereAreWhenNoneWasLeft() {
        checks.same("buyStrings(2)", 2, withoutSpareStrings().buyStrings(2));
    }

    void buyStringsHasNoLimitOverSeveralCalls() {
        SkittleStrings x = new SkittleStrings();
        for (int call = 1; call <= 512; call++) {
            checks.same("call " + call, 3 + 20 * call, x.buyStrings(20));
        }
    }

    // ---- Promise 6: newGame

    void newGameAnswersMinus1WithoutPlayers() {
        checks.same("newGame()", -1, new SkittleStrings().newGame());
    }

    void newGameAnswers0AheadOfAllThrows() {
        checks.same("newGame() of one", 0, alley(1).newGame());
        checks.same("newGame() of four", 0, alley(4).newGame());
    }

    void newGameAnswersTheSmallestNumberOfAllWithTheMostPoints() {
        checks.same("newGame()", 0, finishedGame(4).newGame());
    }

    void newGameAnswersTheSmallestNumberOfSeveralBehindThePlayer0() {
        SkittleStrings x = alley(4);
        onePinFrame(x);
        sevenFrame(x);
        onePinFrame(x);
        sevenFrame(x);
        checks.same("newGame()", 1, x.newGame());
    }

    void newGameAnswersTheLastPlayerWithTheMostPoints() {
        SkittleStrings x = alley(4);
        for (int i = 0; i < 3; i++) {
            onePinFrame(x);
        }
        x.throwBall(0, 1);
        checks.same("newGame()", 3, x.newGame());
    }

    void newGameCountsThePointsOfNextThrows() {
        // Three pins fell for each player, but the player 1's strike has the one of its next throw too.
        SkittleStrings x = alleyOf(2, "01");
        x.throwBall(0, 2);
        x.throwBall(1, 0);
        x.throwBall(2, 0);
        x.throwBall(3, 2);
        x.throwBall(1, 2);
        x.throwBall(0, 2);
        checks.same("score of the player 0", 3, x.scoreOf(0));
        checks.same("score of the player 1", 4, x.scoreOf(1));
        checks.same("newGame()", 1, x.newGame());
    }

    void newGameBehindANewGameAnswers0() {
        SkittleStrings x = alley(2);
        onePinFrame(x);
        x.throwBall(4, 2);
        checks.same("the first", 1, x.newGame());
        checks.same("the second", 0, x.newGame());
    }

    void aNewGameHasTheSamePlayersWithNoThrows() {
        SkittleStrings x = finishedGame(4);
        x.newGame();
        checks.same("players", 4, x.players());
        for (int player = 0; player < 4; player++) {
            checks.same("throws", 0, x.throwsOf(player));
            checks.same("score", 0, x.scoreOf(player));
            checks.same("points", "0 0 0 0 0 0 0 0 0 0", points(x, player));
        }
    }

    void aNewGameHasNoStrikesAndSpares() {
        SkittleStrings strikes = alleyOf(1, "01");
        strikes.throwBall(1, 2);
        strikes.newGame();
        checks.same("strikes", 0, strikes.strikesOf(0));
        SkittleStrings spares = finishedGameOfSpares();
        spares.newGame();
        checks.same("spares", 0, spares.sparesOf(0));
    }

    void aNewGameBeginsWithThePlayer0InTheFrame0() {
        SkittleStrings x = alley(3);
        sevenFrame(x);
        x.throwBall(4, 2);
        x.newGame();
        checks.same("the turn", 0, x.playerInTurn());
        checks.same("the frame", 0, x.frame());
        checks.same("throws in the frame", 0, x.throwsInFrame());
    }

    void aNewGameBehindAGameIsNotOver() {
        SkittleStrings x = finishedGame();
        x.newGame();
        checks.same("over", false, x.isOver());
        checks.same("the turn", 0, x.playerInTurn());
        checks.same("the frame", 0, x.frame());
        checks.same("throwBall(4, 2)", 7, x.throwBall(4, 2));
    }

    void inANewGameAllUnbrokenPinsStand() {
        SkittleStrings x = begun();
        x.newGame();
        checks.same("standing", "012345678", pinsThatStand(x));
    }

    void inANewGameBrokenPinsDoNotStand() {
        SkittleStrings x = wornAlley();
        x.newGame();
        checks.same("standing", "67", pinsThatStand(x));
        SkittleStrings broken = brokenAlley();
        broken.newGame();
        checks.same("standing, with all broken", "", pinsThatStand(broken));
    }

    void inANewGameNoBallIsAway() {
        SkittleStrings x = begun();
        x.throwBall(0, 0);
        x.newGame();
        checks.same("balls", "0 0 0 0 0", away(x));
        checks.same("throwBall(4, 2)", 7, x.throwBall(4, 2));
    }

    void inANewGameStringsAreAsWornAsBefore() {
        SkittleStrings x = begun();
        x.newGame();
        checks.same("wears", "1 1 1 1 1 1 0 0 1", wears(x));
    }

    void inANewGameThereAreAsManySpareStringsAsBefore() {
        SkittleStrings x = withoutSpareStrings();
        x.newGame();
        checks.same("spare strings", 0, x.spareStrings());
    }
}
