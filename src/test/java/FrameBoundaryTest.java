/** The terms 'Frames' and 'Score', and those on exceptions: each boundary case that they name, in a test of its own. */
public final class FrameBoundaryTest extends Suite {
    private FrameBoundaryTest() {
    }

    public static void main(String[] args) {
        new FrameBoundaryTest().runAll();
    }

    /** Both pins 0 and 1, if they stand, with one throw. */
    private static void strike(SkittleStrings x, int ball) {
        x.throwBall(ball, 2);
    }

    /** In an alley of the pins 0 and 1: each with a throw of its own. */
    private static void spare(SkittleStrings x) {
        x.throwBall(0, 2);
        x.throwBall(1, 1);
    }

    // ---- "they throw frame by frame, in turn, from the player 0 on; each has 10 frames"

    void onePlayerIsInTurnAgainAndAgain() {
        SkittleStrings x = alley(1);
        sevenFrame(x);
        checks.same("the turn", 0, x.playerInTurn());
        checks.same("the frame", 1, x.frame());
    }

    void behindTheLastOfFourPlayersThePlayer0IsInTurn() {
        SkittleStrings x = alley(4);
        for (int player = 0; player < 4; player++) {
            checks.same("the turn", player, x.playerInTurn());
            checks.same("the frame", 0, x.frame());
            onePinFrame(x);
        }
        checks.same("the turn behind the last one", 0, x.playerInTurn());
        checks.same("the frame behind the last one", 1, x.frame());
    }

    void eachPlayerHas10Frames() {
        SkittleStrings x = finishedGame(4);
        for (int player = 0; player < 4; player++) {
            checks.same("points of the player " + player, "7 7 7 7 7 7 7 7 7 7", points(x, player));
        }
    }

    // "At the beginning of each frame, so as soon as the one before has ended, all pins .. stand"

    void pinsStandAsSoonAsTheThirdThrowHasEndedAFrame() {
        SkittleStrings x = alley(1);
        onePinFrame(x);
        checks.same("standing", "012345678", pinsThatStand(x));
    }

    void pinsStandAsSoonAsAFrameIsCleared() {
        SkittleStrings x = alleyOf(1, "01");
        strike(x, 1);
        checks.same("standing", "01", pinsThatStand(x));
    }

    void pinsStandForTheNextPlayer() {
        SkittleStrings x = alley(2);
        sevenFrame(x);
        checks.same("standing", "012345678", pinsThatStand(x));
    }

    void pinsStayFallenWithinAFrame() {
        SkittleStrings x = alley(1);
        x.throwBall(4, 2);
        x.throwBall(3, 2);
        checks.same("standing", "67", pinsThatStand(x));
    }

    void aStringThatBreaksInAFrameIsMissingInTheNext() {
        SkittleStrings x = wornAlley();
        x.throwBall(4, 1);
        x.throwBall(0, 2);
        x.throwBall(1, 2);
        checks.same("standing", "7", pinsThatStand(x));
    }

    // "behind the last frame of the game they stay as they are"

    void behindTheLastFramePinsThatStandStay() {
        checks.same("standing", "67", pinsThatStand(finishedGame()));
    }

    void behindTheLastFrameFallenPinsStay() {
        checks.same("standing", "", pinsThatStand(finishedGameOfSpares()));
    }

    void behindTheLastFrameOfAPlayerWhoIsNotTheLastPinsStand() {
        SkittleStrings x = alleyOf(2, "18");
        roll(x, 0, 18 * 3);
        roll(x, 1);
        roll(x, 0, 2);
        checks.same("the turn", 1, x.playerInTurn());
        checks.same("standing", "18", pinsThatStand(x));
        roll(x, 1);
        roll(x, 0, 2);
        checks.same("over", true, x.isOver());
        checks.same("standing behind the last one", "8", pinsThatStand(x));
    }

    void behindTheLastFrameARefusedThrowLeavesThePins() {
        SkittleStrings x = finishedGame();
        checks.badState("throwBall", () -> x.throwBall(0, 1));
        checks.same("standing", "67", pinsThatStand(x));
    }

    // "A frame ends as soon as no pin stands, or with its third throw."

    void aFrameEndsWithItsFirstThrowIfNoPinStands() {
        SkittleStrings x = alleyOf(1, "01");
        strike(x, 1);
        checks.same("the frame", 1, x.frame());
        checks.same("throws in it", 0, x.throwsInFrame());
    }

    void aFrameEndsWithItsSecondThrowIfNoPinStands() {
        SkittleStrings x = alleyOf(1, "01");
        x.throwBall(0, 2);
        checks.same("the frame behind the first throw", 0, x.frame());
        x.throwBall(1, 1);
        checks.same("the frame", 1, x.frame());
        checks.same("throws in it", 0, x.throwsInFrame());
    }

    void aFrameEndsWithItsThirdThrowIfPinsStand() {
        SkittleStrings x = alleyOf(1, "01");
        x.throwBall(0, 0);
        x.throwBall(1, 0);
        checks.same("the frame behind the second throw", 0, x.frame());
        x.throwBall(2, 0);
        checks.same("the frame", 1, x.frame());
    }

    // "It is a strike .. a spare, if no pin stands behind its second or third one, and one at least fell in it."

    void aFrameClearedByTheFirstThrowIsAStrike() {
        checkStrikesAndSpares(new int[] {12}, 1, 0);
    }

    void aFrameClearedByTheSecondThrowIsASpare() {
        checkStrikesAndSpares(new int[] {2, 11}, 0, 1);
    }

    void aFrameClearedByTheSecondThrowAloneIsASpare() {
        checkStrikesAndSpares(new int[] {0, 12}, 0, 1);
    }

    void aFrameClearedByTheThirdThrowIsASpare() {
        checkStrikesAndSpares(new int[] {2, 10, 21}, 0, 1);
    }

    void aFrameClearedByTheThirdThrowAloneIsASpare() {
        checkStrikesAndSpares(new int[] {0, 10, 22}, 0, 1);
    }

    void aFrameOfThreeThrowsWithAPinLeftIsNeither() {
        checkStrikesAndSpares(new int[] {2, 10, 20}, 0, 0);
    }

    void aFrameOfThreeThrowsWithoutPinsIsNeither() {
        checkStrikesAndSpares(new int[] {0, 10, 20}, 0, 0);
    }

    void aFrameThatIsNotEndedIsNeither() {
        SkittleStrings x = alleyOf(1, "01");
        x.throwBall(0, 2);
        checks.same("strikes", 0, x.strikesOf(0));
        checks.same("spares", 0, x.sparesOf(0));
    }

    /** A throw is 10 times the ball, and the lane, added; only the pins 0 and 1 can stand. */
    private void checkStrikesAndSpares(int[] thrown, int strikes, int spares) {
        SkittleStrings x = alleyOf(1, "01");
        for (int one : thrown) {
            x.throwBall(one / 10, one % 10);
        }
        checks.same("the frame", 1, x.frame());
        checks.same("strikes", strikes, x.strikesOf(0));
        checks.same("spares", spares, x.sparesOf(0));
    }

    // "If no pin can stand, a frame is one throw, without pins."

    void ifNoPinCanStandAFrameIsOneThrow() {
        SkittleStrings x = alleyOf(2, "");
        checks.same("falling", 0, x.throwBall(4, 2));
        checks.same("the turn", 1, x.playerInTurn());
        checks.same("throws in the frame", 0, x.throwsInFrame());
        checks.same("throws", 1, x.throwsOf(0));
    }

    void aFrameInWhichNoPinCanStandIsNeitherStrikeNorSpare() {
        SkittleStrings x = alleyOf(1, "");
        roll(x, 2, 3);
        checks.same("strikes", 0, x.strikesOf(0));
        checks.same("spares", 0, x.sparesOf(0));
        checks.same("points", "0 0 0 0 0 0 0 0 0 0", points(x, 0));
    }

    void aWholeGameInWhichNoPinCanStandIs10Throws() {
        SkittleStrings x = alleyOf(1, "");
        roll(x, 2, 9);
        checks.same("over behind 9 throws", false, x.isOver());
        roll(x, 2);
        checks.same("over behind 10 throws", true, x.isOver());
        checks.same("throws", 10, x.throwsOf(0));
    }

    void aFrameInWhichNoPinCouldStandIsOneThrowAlsoWithANewString() {
        SkittleStrings x = alleyOf(1, "");
        x.replaceString(8);
        checks.same("falling", 0, x.throwBall(4, 2));
        checks.same("the frame", 1, x.frame());
        checks.same("strikes", 0, x.strikesOf(0));
        checks.same("standing in the next frame", "8", pinsThatStand(x));
    }

    void aNewStringForPinsThatFellDoesNotKeepAFrameOpen() {
        SkittleStrings x = alleyOf(1, "01");
        x.throwBall(0, 2);
        x.replaceString(0);
        x.throwBall(1, 1);
        checks.same("the frame", 1, x.frame());
        checks.same("spares", 1, x.sparesOf(0));
    }

    // ---- "a strike also those of the next two throws of this player .. as far as they are thrown in this game"

    void aStrikeWhoseNextThrowsAreNotThrownHasItsOwnPoints() {
        SkittleStrings x = alleyOf(1, "01");
        strike(x, 1);
        checks.same("points", 2, x.pointsOf(0, 0));
        checks.same("score", 2, x.scoreOf(0));
    }

    void aStrikeHasThePointsOfTheNextThrow() {
        SkittleStrings x = alleyOf(1, "01");
        strike(x, 1);
        x.throwBall(0, 2);
        checks.same("points", "3 1 0 0 0 0 0 0 0 0", points(x, 0));
        checks.same("score", 4, x.scoreOf(0));
    }

    void aStrikeHasThePointsOfTheNextTwoThrows() {
        SkittleStrings x = alleyOf(1, "01");
        strike(x, 2);
        spare(x);
        checks.same("points", "4 2 0 0 0 0 0 0 0 0", points(x, 0));
    }

    void aStrikeHasNotThePointsOfTheThirdThrowBehindIt() {
        SkittleStrings x = alleyOf(1, "01");
        strike(x, 2);
        spare(x);
        strike(x, 3);
        checks.same("points", "4 4 2 0 0 0 0 0 0 0", points(x, 0));
    }

    void aThrowWithoutPinsIsOneOfTheNextTwo() {
        SkittleStrings x = alleyOf(1, "01");
        strike(x, 1);
        x.throwBall(0, 0);
        x.throwBall(2, 0);
        x.throwBall(3, 2);
        checks.same("points", "2 2 0 0 0 0 0 0 0 0", points(x, 0));
    }

    void theNextTwoThrowsOfAStrikeMayBeInTwoFrames() {
        SkittleStrings x = alleyOf(1, "01");
        strike(x, 1);
        strike(x, 2);
        checks.same("points behind two strikes", "4 2 0 0 0 0 0 0 0 0", points(x, 0));
        strike(x, 3);
        checks.same("points behind three strikes", "6 4 2 0 0 0 0 0 0 0", points(x, 0));
        strike(x, 1);
        checks.same("points behind four strikes", "6 6 4 2 0 0 0 0 0 0", points(x, 0));
    }

    void aFrameInWhichNoPinCanStandIsANextThrow() {
        SkittleStrings x = pin8WornBy(10);
        roll(x, 2, 2);
        x.replaceString(8);
        roll(x, 2, 2);
        checks.same("points", "2 2 0 1 0 0 0 0 0 0", points(x, 0));
    }

    void theThrowsOfOtherPlayersAreNoNextThrowsOfAStrike() {
        SkittleStrings x = alleyOf(2, "01");
        strike(x, 1);
        strike(x, 2);
        checks.same("points of the player 0", 2, x.pointsOf(0, 0));
        strike(x, 3);
        checks.same("points of the player 0 behind its next throw", 4, x.pointsOf(0, 0));
        checks.same("points of the player 1", 2, x.pointsOf(1, 0));
    }

    void theThrowsOfAnotherGameAreNoNextThrows() {
        SkittleStrings x = alleyOf(1, "01");
        strike(x, 1);
        x.newGame();
        x.throwBall(0, 2);
        checks.same("points", "1 0 0 0 0 0 0 0 0 0", points(x, 0));
    }

    void strikesInTheLastTwoFramesHaveFewerNextThrows() {
        SkittleStrings x = alleyOf(1, "01");
        for (int i = 0; i < 10; i++) {
            strike(x, 1 + i % 3);
        }
        checks.same("points", "6 6 6 6 6 6 6 6 4 2", points(x, 0));
        checks.same("score", 54, x.scoreOf(0));
        checks.same("strikes", 10, x.strikesOf(0));
        checks.same("throws", 10, x.throwsOf(0));
    }

    // "a spare those of the next one"

    void aSpareWhoseNextThrowIsNotThrownHasItsOwnPoints() {
        SkittleStrings x = alleyOf(1, "01");
        spare(x);
        checks.same("points", "2 0 0 0 0 0 0 0 0 0", points(x, 0));
    }

    void aSpareHasThePointsOfTheNextThrow() {
        SkittleStrings x = alleyOf(1, "01");
        spare(x);
        strike(x, 2);
        checks.same("points", "4 2 0 0 0 0 0 0 0 0", points(x, 0));
    }

    void aSpareHasNotThePointsOfTheSecondThrowBehindIt() {
        SkittleStrings x = alleyOf(1, "01");
        spare(x);
        x.throwBall(2, 2);
        strike(x, 3);
        checks.same("points", "4 4 2 0 0 0 0 0 0 0", points(x, 0));
    }

    void aThrowWithoutPinsIsTheNextOneOfASpare() {
        SkittleStrings x = alleyOf(1, "01");
        spare(x);
        x.throwBall(2, 0);
        x.throwBall(3, 2);
        checks.same("points", "2 2 0 0 0 0 0 0 0 0", points(x, 0));
    }

    void aSpareWithTheThirdThrowHasThePointsOfTheNextThrow() {
        SkittleStrings x = alleyOf(1, "01");
        x.throwBall(0, 2);
        x.throwBall(1, 0);
        x.throwBall(2, 1);
        x.throwBall(0, 2);
        x.throwBall(1, 1);
        checks.same("points", "3 2 0 0 0 0 0 0 0 0", points(x, 0));
    }

    void theThrowsOfOtherPlayersAreNoNextThrowsOfASpare() {
        SkittleStrings x = alleyOf(2, "01");
        spare(x);
        strike(x, 2);
        checks.same("points of the player 0", 2, x.pointsOf(0, 0));
        strike(x, 3);
        checks.same("points of the player 0 behind its next throw", 4, x.pointsOf(0, 0));
    }

    void aSpareInTheLastFrameHasItsOwnPoints() {
        SkittleStrings x = finishedGameOfSpares();
        checks.same("points", "16 16 16 16 16 16 16 16 16 9", points(x, 0));
        checks.same("spares", 10, x.sparesOf(0));
    }

    void aFrameOfThreeThrowsWithAPinLeftHasItsOwnPoints() {
        SkittleStrings x = alley(1);
        sevenFrame(x);
        sevenFrame(x);
        checks.same("points", "7 7 0 0 0 0 0 0 0 0", points(x, 0));
    }

    // "The game is over as each player has thrown all frames."

    void theGameIsNotOverAheadOfTheLastThrowOfTheLastPlayer() {
        SkittleStrings x = alleyOf(4, "");
        roll(x, 2, 39);
        checks.same("over", false, x.isOver());
        checks.same("the turn", 3, x.playerInTurn());
        checks.same("the frame", 9, x.frame());
    }

    void theGameIsOverBehindTheLastThrowOfTheLastPlayer() {
        SkittleStrings x = alleyOf(4, "");
        roll(x, 2, 40);
        checks.same("over", true, x.isOver());
        checks.badState("throwBall", () -> x.throwBall(0, 2));
    }

    // ---- "A method that throws an exception changes nothing. If several exceptions apply, the one named first .."

    void aRefusedThrowOfABallThatIsAwayChangesNothing() {
        refuses("throwBall(4, 2)", BAD_STATE, Suite::begun, x -> x.throwBall(4, 2));
    }

    void aRefusedNewStringChangesNothing() {
        refuses("replaceString(3)", BAD_STATE, Suite::withoutSpareStrings, x -> x.replaceString(3));
    }

    void refusedStringsChangeNothing() {
        refuses("buyStrings(21)", BAD_ARGUMENT, Suite::begun, x -> x.buyStrings(21));
    }

    void aRefusedPlayerChangesNothing() {
        refuses("addPlayer()", BAD_STATE, Suite::begun, SkittleStrings::addPlayer);
    }

    void anIndexOutOfBoundsIsNamedAheadOfABallThatIsAway() {
        refuses("throwBall(4, 5)", OUT_OF_BOUNDS, Suite::begun, x -> x.throwBall(4, 5));
    }

    void anIndexOutOfBoundsIsNamedAheadOfNoSpareString() {
        refuses("replaceString(9)", OUT_OF_BOUNDS, Suite::withoutSpareStrings, x -> x.replaceString(9));
    }
}
