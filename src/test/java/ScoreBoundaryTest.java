import java.util.function.BiFunction;

/** The promises 15 to 25, the score: each boundary case that they name, in a test of its own. */
public final class ScoreBoundaryTest extends Suite {
    private ScoreBoundaryTest() {
    }

    public static void main(String[] args) {
        new ScoreBoundaryTest().runAll();
    }

    /** The player 0 has had a frame of 7 pins, the player 1 a throw of 1. */
    private static SkittleStrings twoBegun() {
        SkittleStrings x = alley(2);
        sevenFrame(x);
        x.throwBall(0, 0);
        return x;
    }

    /** With no, one, two and four players: the last one is taken, and none behind it. */
    private void takesPlayersThatThereAre(BiFunction<SkittleStrings, Integer, Object> call) {
        takesNumbersBelow(1, () -> alley(1), call);
        takesNumbersBelow(2, ScoreBoundaryTest::twoBegun, call);
        takesNumbersBelow(4, () -> alley(4), call);
        takesNumbersBelow(1, Suite::finishedGame, call);
    }

    // ---- Promise 15: players

    void playersTells0AtFirst() {
        checks.same("players()", 0, new SkittleStrings().players());
    }

    void playersTells4OfFour() {
        SkittleStrings x = alley(4);
        checks.same("players()", 4, x.players());
        checks.badState("a fifth", x::addPlayer);
        checks.same("players() behind a refused fifth", 4, x.players());
    }

    void playersStayBehindTheGameAndInANewOne() {
        SkittleStrings x = finishedGame(4);
        checks.same("players()", 4, x.players());
        x.newGame();
        checks.same("players() in a new game", 4, x.players());
    }

    // ---- Promise 16: playerInTurn

    void playerInTurnTellsMinus1WithoutPlayers() {
        checks.same("playerInTurn()", -1, new SkittleStrings().playerInTurn());
    }

    void playerInTurnTellsMinus1WithoutPlayersInANewGame() {
        SkittleStrings x = new SkittleStrings();
        x.newGame();
        checks.same("playerInTurn()", -1, x.playerInTurn());
    }

    void playerInTurnTells0AsSoonAsThereIsAPlayer() {
        checks.same("playerInTurn()", 0, alley(1).playerInTurn());
        checks.same("playerInTurn() of four", 0, alley(4).playerInTurn());
    }

    void playerInTurnTellsMinus1BehindTheGame() {
        checks.same("playerInTurn()", -1, finishedGame().playerInTurn());
        checks.same("playerInTurn() of four", -1, finishedGame(4).playerInTurn());
    }

    void playerInTurnTellsTheLastPlayerAheadOfTheLastThrow() {
        SkittleStrings x = alleyOf(3, "");
        roll(x, 2, 29);
        checks.same("playerInTurn()", 2, x.playerInTurn());
        roll(x, 2);
        checks.same("playerInTurn() behind it", -1, x.playerInTurn());
    }

    // ---- Promise 17: frame

    void frameTells0AtFirst() {
        checks.same("frame() without players", 0, new SkittleStrings().frame());
        checks.same("frame() of one", 0, alley(1).frame());
    }

    void frameTells9OfTheLastFrame() {
        SkittleStrings x = alleyOf(1, "0");
        roll(x, 2, 9);
        checks.same("frame()", 9, x.frame());
        roll(x, 0, 2);
        checks.same("frame() ahead of the last throw", 9, x.frame());
    }

    void frameTells10BehindTheGame() {
        SkittleStrings x = alleyOf(1, "0");
        roll(x, 2, 9);
        roll(x, 0, 3);
        checks.same("frame()", 10, x.frame());
    }

    void frameTellsTheNextOneBehindTheLastPlayerOnly() {
        SkittleStrings x = alleyOf(3, "");
        roll(x, 2, 2);
        checks.same("frame() ahead of the last player", 0, x.frame());
        roll(x, 2);
        checks.same("frame() behind the last player", 1, x.frame());
    }

    // ---- Promise 18: throwsInFrame

    void throwsInFrameTells0To2() {
        SkittleStrings x = alley(1);
        for (int thrown = 0; thrown < 3; thrown++) {
            checks.same("throwsInFrame()", thrown, x.throwsInFrame());
            roll(x, 0);
        }
        checks.same("throwsInFrame() behind the third throw", 0, x.throwsInFrame());
    }

    void throwsInFrameTells0BehindAStrikeAndASpare() {
        SkittleStrings x = alleyOf(1, "01");
        x.throwBall(1, 2);
        checks.same("throwsInFrame() behind a strike", 0, x.throwsInFrame());
        x.throwBall(0, 2);
        checks.same("throwsInFrame() behind one throw", 1, x.throwsInFrame());
        x.throwBall(2, 1);
        checks.same("throwsInFrame() behind a spare", 0, x.throwsInFrame());
    }

    void throwsInFrameTells0BehindTheGame() {
        checks.same("throwsInFrame() with pins left", 0, finishedGame().throwsInFrame());
        checks.same("throwsInFrame() behind a spare", 0, finishedGameOfSpares().throwsInFrame());
    }

    void throwsInFrameTells0WithoutPlayers() {
        checks.same("throwsInFrame()", 0, new SkittleStrings().throwsInFrame());
    }

    void throwsInFrameTells0InANewGame() {
        SkittleStrings x = twoBegun();
        checks.same("throwsInFrame() ahead of it", 1, x.throwsInFrame());
        x.newGame();
        checks.same("throwsInFrame()", 0, x.throwsInFrame());
    }

    // ---- Promise 19: isOver

    void isOverTellsNoWithoutPlayers() {
        checks.same("isOver()", false, new SkittleStrings().isOver());
    }

    void isOverTellsNoAheadOfTheLastThrow() {
        SkittleStrings x = alleyOf(1, "0");
        roll(x, 2, 9);
        roll(x, 0, 2);
        checks.same("isOver()", false, x.isOver());
    }

    void isOverTellsYesBehindTheThirdThrowOfTheLastFrame() {
        SkittleStrings x = alleyOf(1, "0");
        roll(x, 2, 9);
        roll(x, 0, 3);
        checks.same("isOver()", true, x.isOver());
    }

    void isOverTellsYesBehindAStrikeInTheLastFrame() {
        SkittleStrings x = alleyOf(1, "0");
        roll(x, 2, 10);
        checks.same("isOver()", true, x.isOver());
    }

    void isOverTellsNoUntilTheLastPlayerHasThrownAllFrames() {
        SkittleStrings x = alleyOf(2, "");
        roll(x, 2, 19);
        checks.same("isOver() behind the player 0", false, x.isOver());
        roll(x, 2);
        checks.same("isOver() behind the player 1", true, x.isOver());
    }

    void isOverTellsNoInANewGame() {
        SkittleStrings x = finishedGame();
        x.newGame();
        checks.same("isOver()", false, x.isOver());
    }

    // ---- Promise 20: throwsOf

    void throwsOfTakesPlayersThatThereAre() {
        takesPlayersThatThereAre(SkittleStrings::throwsOf);
    }

    void throwsOfRefusesThePlayer0WithoutPlayers() {
        refuses("throwsOf(0)", OUT_OF_BOUNDS, SkittleStrings::new, x -> x.throwsOf(0));
    }

    void throwsOfTells0AheadOfAllThrows() {
        checks.same("throwsOf(3)", 0, alley(4).throwsOf(3));
    }

    void throwsOfTells30AtMost() {
        checks.same("throwsOf(3)", 30, finishedGame(4).throwsOf(3));
    }

    void throwsOfTells10OfAGameOfStrikes() {
        SkittleStrings x = alleyOf(1, "0");
        roll(x, 2, 10);
        checks.same("throwsOf(0)", 10, x.throwsOf(0));
    }

    void throwsOfDoesNotTellARefusedThrow() {
        SkittleStrings x = twoBegun();
        checks.badState("a ball that is away", () -> x.throwBall(0, 0));
        checks.same("throwsOf(1)", 1, x.throwsOf(1));
    }

    void throwsOfTellsAThrowWithoutPins() {
        SkittleStrings x = alleyOf(1, "0");
        x.throwBall(0, 0);
        checks.same("throwsOf(0)", 1, x.throwsOf(0));
    }

    // ---- Promise 21: scoreOf

    void scoreOfTakesPlayersThatThereAre() {
        takesPlayersThatThereAre(SkittleStrings::scoreOf);
    }

    void scoreOfRefusesThePlayer0WithoutPlayers() {
        refuses("scoreOf(0)", OUT_OF_BOUNDS, SkittleStrings::new, x -> x.scoreOf(0));
    }

    void scoreOfTells0AheadOfAllThrows() {
        checks.same("scoreOf(3)", 0, alley(4).scoreOf(3));
    }

    void scoreOfTellsThePointsWithinAFrame() {
        checks.same("scoreOf(1)", 1, twoBegun().scoreOf(1));
    }

    void scoreOfTellsThePointsOfAllFramesToTheLast() {
        checks.same("scoreOf(0) of sevens", 70, finishedGame().scoreOf(0));
        checks.same("scoreOf(0) of spares", 9 * 16 + 9, finishedGameOfSpares().scoreOf(0));
    }

    // ---- Promise 22: pointsOf

    void pointsOfTakesPlayersThatThereAre() {
        takesPlayersThatThereAre((x, player) -> x.pointsOf(player, 0));
    }

    void pointsOfTakesTheFrames0To9() {
        takesNumbersBelow(10, ScoreBoundaryTest::twoBegun, (x, frame) -> x.pointsOf(1, frame));
        takesNumbersBelow(10, Suite::finishedGame, (x, frame) -> x.pointsOf(0, frame));
    }

    void pointsOfRefusesAWrongFrameOfAWrongPlayer() {
        refuses("pointsOf(2, 10)", OUT_OF_BOUNDS, ScoreBoundaryTest::twoBegun, x -> x.pointsOf(2, 10));
    }

    void pointsOfRefusesThePlayer0WithoutPlayers() {
        refuses("pointsOf(0, 0)", OUT_OF_BOUNDS, SkittleStrings::new, x -> x.pointsOf(0, 0));
    }

    void pointsOfTells0OfAFrameInWhichNothingWasThrown() {
        SkittleStrings x = twoBegun();
        checks.same("points of the player 0", "7 0 0 0 0 0 0 0 0 0", points(x, 0));
        checks.same("points of the player 1", "1 0 0 0 0 0 0 0 0 0", points(x, 1));
    }

    void pointsOfTells0OfTheFrameBehindAStrike() {
        SkittleStrings x = alleyOf(1, "0");
        roll(x, 2);
        checks.same("pointsOf(0, 1)", 0, x.pointsOf(0, 1));
    }

    void pointsOfTells0OfAFrameOfThrowsWithoutPins() {
        SkittleStrings x = alleyOf(1, "0");
        roll(x, 0, 3);
        checks.same("pointsOf(0, 0)", 0, x.pointsOf(0, 0));
    }

    void pointsOfTellsTheFirstAndTheLastFrame() {
        SkittleStrings x = alleyOf(1, "0");
        roll(x, 0, 27);
        roll(x, 2);
        checks.same("points", "0 0 0 0 0 0 0 0 0 1", points(x, 0));
        x.newGame();
        roll(x, 2);
        checks.same("points of the next game", "1 0 0 0 0 0 0 0 0 0", points(x, 0));
    }

    // ---- Promises 23 and 24: strikesOf and sparesOf

    void strikesOfTakesPlayersThatThereAre() {
        takesPlayersThatThereAre(SkittleStrings::strikesOf);
    }

    void strikesOfRefusesThePlayer0WithoutPlayers() {
        refuses("strikesOf(0)", OUT_OF_BOUNDS, SkittleStrings::new, x -> x.strikesOf(0));
    }

    void strikesOfTells0To10() {
        SkittleStrings x = alleyOf(1, "0");
        for (int strikes = 0; strikes < 10; strikes++) {
            checks.same("strikesOf(0)", strikes, x.strikesOf(0));
            roll(x, 2);
        }
        checks.same("strikesOf(0)", 10, x.strikesOf(0));
        checks.same("sparesOf(0)", 0, x.sparesOf(0));
    }

    void strikesOfTellsThoseOfThisPlayerAlone() {
        SkittleStrings x = alleyOf(2, "0");
        roll(x, 0, 3);
        roll(x, 2);
        checks.same("strikesOf(0)", 0, x.strikesOf(0));
        checks.same("strikesOf(1)", 1, x.strikesOf(1));
    }

    void sparesOfTakesPlayersThatThereAre() {
        takesPlayersThatThereAre(SkittleStrings::sparesOf);
    }

    void sparesOfRefusesThePlayer0WithoutPlayers() {
        refuses("sparesOf(0)", OUT_OF_BOUNDS, SkittleStrings::new, x -> x.sparesOf(0));
    }

    void sparesOfTells0To10() {
        SkittleStrings x = alley(1);
        for (int spares = 0; spares < 10; spares++) {
            checks.same("sparesOf(0)", spares, x.sparesOf(0));
            spareFrame(x);
        }
        checks.same("sparesOf(0)", 10, x.sparesOf(0));
        checks.same("strikesOf(0)", 0, x.strikesOf(0));
    }

    void sparesOfTellsThoseOfThisPlayerAlone() {
        SkittleStrings x = alley(2);
        sevenFrame(x);
        spareFrame(x);
        checks.same("sparesOf(0)", 0, x.sparesOf(0));
        checks.same("sparesOf(1)", 1, x.sparesOf(1));
    }

    // ---- Promise 25: leader

    void leaderTellsMinus1WithoutPlayers() {
        checks.same("leader()", -1, new SkittleStrings().leader());
    }

    void leaderTells0AheadOfAllThrows() {
        checks.same("leader() of one", 0, alley(1).leader());
        checks.same("leader() of four", 0, alley(4).leader());
    }

    void leaderTellsTheSmallestNumberOfSeveral() {
        SkittleStrings x = alley(4);
        onePinFrame(x);
        sevenFrame(x);
        sevenFrame(x);
        checks.same("leader()", 1, x.leader());
    }

    void leaderTellsTheSmallestNumberOfAllBehindTheGame() {
        checks.same("leader()", 0, finishedGame(4).leader());
    }

    void leaderTellsTheLastPlayer() {
        SkittleStrings x = alley(4);
        for (int i = 0; i < 3; i++) {
            onePinFrame(x);
        }
        x.throwBall(0, 0);
        checks.same("leader() of four alike", 0, x.leader());
        x.throwBall(1, 1);
        checks.same("leader()", 3, x.leader());
    }

    void leaderTellsThePointsOfNow() {
        SkittleStrings x = alleyOf(2, "01");
        x.throwBall(0, 2);
        x.throwBall(1, 1);
        x.throwBall(2, 2);
        checks.same("leader() of a spare and a strike alike", 0, x.leader());
        x.throwBall(0, 0);
        x.throwBall(1, 0);
        x.throwBall(3, 0);
        checks.same("leader() behind throws without pins", 0, x.leader());
        x.throwBall(0, 2);
        checks.same("leader() behind the next throw of the strike", 1, x.leader());
    }

    // ---- "Nothing is promised beyond the answers and state changes described": what is asked changes nothing

    void playersChangesNothing() {
        changesNothing(SkittleStrings::players);
    }

    void playerInTurnChangesNothing() {
        changesNothing(SkittleStrings::playerInTurn);
    }

    void frameChangesNothing() {
        changesNothing(SkittleStrings::frame);
    }

    void throwsInFrameChangesNothing() {
        changesNothing(SkittleStrings::throwsInFrame);
    }

    void isOverChangesNothing() {
        changesNothing(SkittleStrings::isOver);
    }

    void throwsOfChangesNothing() {
        changesNothing(x -> x.throwsOf(0));
    }

    void scoreOfChangesNothing() {
        changesNothing(x -> x.scoreOf(0));
    }

    void pointsOfChangesNothing() {
        changesNothing(x -> x.pointsOf(0, 0));
    }

    void strikesOfChangesNothing() {
        changesNothing(x -> x.strikesOf(0));
    }

    void sparesOfChangesNothing() {
        changesNothing(x -> x.sparesOf(0));
    }

    void leaderChangesNothing() {
        changesNothing(SkittleStrings::leader);
    }
}
