/** The terms 'Pins', 'Balls' and 'A throw': each sentence that names a boundary case, in a test of its own. */
public final class ThrowBoundaryTest extends Suite {
    private static final int[] LANES_OF_PINS = {2, 1, 3, 0, 2, 4, 1, 3, 2};
    private static final String[] PINS_BEHIND = {"12", "34", "45", "6", "67", "7", "8", "8", ""};

    private ThrowBoundaryTest() {
    }

    public static void main(String[] args) {
        new ThrowBoundaryTest().runAll();
    }

    // ---- "Pins. Nine, numbered from 0, in rows from the front to the back, by lanes"

    void eachPinIsHitAlongItsOwnLaneAlone() {
        for (int pin = 0; pin < 9; pin++) {
            SkittleStrings x = alleyOf(1, "" + pin);
            for (int lane = 0; lane < 5; lane++) {
                int due = lane == LANES_OF_PINS[pin] ? 1 : 0;
                checks.same("the pin " + pin + " along the lane " + lane, due, x.wouldFall(0, lane));
            }
        }
    }

    void eachPinHitsOnlyThoseOfTheNextRowOneLaneAside() {
        for (int pin = 0; pin < 9; pin++) {
            for (int other = 0; other < 9; other++) {
                if (other != pin) {
                    // Of two pins at one lane the ball hits both.
                    boolean both = PINS_BEHIND[pin].contains("" + other) || LANES_OF_PINS[pin] == LANES_OF_PINS[other];
                    SkittleStrings x = alleyOf(1, "" + pin + other);
                    checks.same(pin + " beside " + other, both ? 2 : 1, x.wouldFall(1, LANES_OF_PINS[pin]));
                }
            }
        }
    }

    void thePinAtTheFirstLaneHasNoneToItsLeft() {
        checks.same("falling", 2, alleyOf(1, "3678").wouldFall(1, 0));
        checks.same("the last to fall", 6, alleyOf(1, "3678").lastToFall(1, 0));
    }

    void thePinAtTheLastLaneHasNoneToItsRight() {
        checks.same("falling", 2, alleyOf(1, "5678").wouldFall(1, 4));
        checks.same("the last to fall", 7, alleyOf(1, "5678").lastToFall(1, 4));
    }

    void thePinOfTheLastRowHasNoneBehindIt() {
        checks.same("falling", 1, alleyOf(1, "678").wouldFall(4, 2));
    }

    // ---- "Its string has a wear, 0 to 12 (0, at first); with 12 it is broken"

    void aStringHasTheWear0AtFirst() {
        checks.same("wears", "0 0 0 0 0 0 0 0 0", wears(new SkittleStrings()));
    }

    void aStringHoldsWithTheWear11() {
        SkittleStrings x = pin8WornBy(10);
        roll(x, 2);
        checks.same("the wear", 11, x.wearOf(8));
        checks.same("broken", false, x.isBroken(8));
        checks.same("standing in the next frame", true, x.isStanding(8));
    }

    void aStringIsBrokenWithTheWear12() {
        SkittleStrings x = pin8WornBy(11);
        checks.same("the last hit", 1, roll(x, 2));
        checks.same("the wear", 12, x.wearOf(8));
        checks.same("broken", true, x.isBroken(8));
        checks.same("standing in the next frame", false, x.isStanding(8));
    }

    // "the pin has fallen and does not stand again, until there is a new string"

    void aBrokenPinDoesNotStandInLaterFrames() {
        SkittleStrings x = pin8WornBy(11);
        roll(x, 2, 3);
        checks.same("the frame", 3, x.frame());
        checks.same("standing", false, x.isStanding(8));
    }

    void aBrokenPinDoesNotStandInANewGame() {
        checks.same("standing", false, pin8WornBy(12).isStanding(8));
    }

    void aBrokenPinStandsWithANewString() {
        SkittleStrings x = pin8WornBy(12);
        x.replaceString(8);
        roll(x, 2);
        checks.same("standing in the next frame", true, x.isStanding(8));
    }

    void theWearOfABrokenStringGrowsNoFurther() {
        SkittleStrings x = pin8WornBy(12);
        roll(x, 2, 3);
        checks.same("the wear", 12, x.wearOf(8));
    }

    void aBrokenPinIsPassedByTheBall() {
        checks.same("falling", 2, alleyOf(1, "08").wouldFall(0, 2));
    }

    void aBrokenPinPassesNothingOn() {
        checks.same("falling", 2, alleyOf(1, "068").wouldFall(4, 2));
    }

    // ---- "Balls. Five, numbered from 0; the ball b has the force b + 2"

    void theBall0HasTheForce2() {
        checks.same("two hits by the ball, none by a pin", 2, alleyOf(1, "012348").wouldFall(0, 2));
    }

    void theBall1HasTheForce3() {
        checks.same("a pin hit with 3 hits others, one with 2 none", 4, alleyOf(1, "012467").wouldFall(1, 2));
        checks.same("a third hit", 3, alleyOf(1, "048").wouldFall(1, 2));
    }

    void theBall2HasTheForce4() {
        checks.same("two pins hit with 4 and 3", 6, alleyOf(1, "0123467").wouldFall(2, 2));
    }

    void theBalls3And4HaveTheForce5And6() {
        // No set of pins tells 5 and 6 apart; with 4 the pin 3 would stand, with 7 the pin 6 would fall.
        for (int ball = 3; ball <= 4; ball++) {
            checks.same("a pin hit with 1 at the end of a row of three", 3, alleyOf(1, "013").wouldFall(ball, 2));
            checks.same("none behind that", 3, alleyOf(1, "0136").wouldFall(ball, 2));
        }
    }

    // "A ball that is thrown is away for the next two throws."

    void aBallIsAwayForTheNextTwoThrowsAndNotForTheThird() {
        SkittleStrings x = alley(1);
        x.throwBall(0, 4);
        checks.badState("the first throw behind it", () -> x.throwBall(0, 2));
        x.throwBall(1, 2);
        checks.badState("the second throw behind it", () -> x.throwBall(0, 2));
        x.throwBall(2, 2);
        checks.answering("the third throw behind it", () -> x.throwBall(0, 2));
    }

    void theThrowsOfOtherPlayersCountForABallThatIsAway() {
        SkittleStrings x = alleyOf(2, "8");
        x.throwBall(0, 2);
        checks.same("the turn", 1, x.playerInTurn());
        checks.same("balls", "2 0 0 0 0", away(x));
        x.throwBall(1, 2);
        checks.same("balls behind the other's throw", "1 2 0 0 0", away(x));
    }

    void aThrowWithoutPinsCountsForABallThatIsAway() {
        SkittleStrings x = alleyOf(1, "8");
        x.throwBall(0, 0);
        checks.same("balls", "2 0 0 0 0", away(x));
        x.throwBall(1, 4);
        checks.same("balls behind another", "1 2 0 0 0", away(x));
    }

    void aRefusedThrowDoesNotCountForABallThatIsAway() {
        SkittleStrings x = alley(1);
        x.throwBall(0, 4);
        checks.badState("a ball that is away", () -> x.throwBall(0, 2));
        checks.outOfBounds("no such ball", () -> x.throwBall(5, 2));
        checks.outOfBounds("no such lane", () -> x.throwBall(1, 5));
        checks.same("balls", "2 0 0 0 0", away(x));
    }

    void whatIsNoThrowDoesNotCountForABallThatIsAway() {
        SkittleStrings x = alley(1);
        x.throwBall(0, 4);
        x.replaceString(0);
        x.buyStrings(1);
        x.wouldFall(1, 2);
        x.bestThrow();
        x.throwsToClear();
        checks.same("balls", "2 0 0 0 0", away(x));
    }

    void theFirstBallCanBeThrownAgainBesideTwoThatAreAway() {
        SkittleStrings x = alley(1);
        for (int i = 0; i < 30; i++) {
            int ball = i % 3;
            checks.answering("throw " + i, () -> x.throwBall(ball, 0));
        }
    }

    // ---- "it rolls row by row .. with its force of now, and has 1 less force then; with none left it stops"

    void aBallWithNoForceLeftStops() {
        SkittleStrings x = alleyOf(1, "048");
        checks.same("falling", 2, x.throwBall(0, 2));
        checks.same("standing", "8", pinsThatStand(x));
    }

    void aBallWithOneForceLeftHitsAThirdPin() {
        checks.same("falling", 3, alleyOf(1, "048").wouldFall(1, 2));
    }

    void aBallLosesNoForceWhereNoPinStands() {
        checks.same("falling, with 2 at the pin 8", 1, alleyOf(1, "8").wouldFall(0, 2));
        checks.same("falling, with 3 at the pin 4", 4, alleyOf(1, "4678").wouldFall(1, 2));
    }

    void aBallHitsASecondPinWithItsForceOfNow() {
        checks.same("with 2 it hits no other", 2, alleyOf(1, "0467").wouldFall(1, 2));
        checks.same("with 3 it hits others", 4, alleyOf(1, "0467").wouldFall(2, 2));
    }

    void aBallAlongALaneWithoutAPinFellsNone() {
        SkittleStrings x = alleyOf(1, "8");
        checks.same("falling", 0, x.throwBall(4, 0));
        checks.same("standing", "8", pinsThatStand(x));
    }

    // ---- "Then it hits the pin of the next row .. if there are such pins that stand, each with 2 less .. if 1 or more"

    void aPinHitWith2HitsNoOther() {
        checks.same("falling", 1, alleyOf(1, "012").wouldFall(0, 2));
    }

    void aPinHitWith3HitsBothBehindItWith1() {
        checks.same("falling", 3, alleyOf(1, "01235").wouldFall(1, 2));
    }

    void aPinHitWith4PassesNothingOnBeyondTheNextRow() {
        checks.same("falling", 2, alleyOf(1, "013").wouldFall(2, 2));
    }

    void aPinHitWith5PassesOnBeyondTheNextRow() {
        checks.same("falling", 3, alleyOf(1, "013").wouldFall(3, 2));
    }

    void aFallenPinIsNotHitAgain() {
        SkittleStrings x = alleyOf(1, "0124");
        x.throwBall(3, 2);
        checks.same("wears", "1 1 1 12 1 12 12 12 12", wears(x));
    }

    void aFallenPinStopsWhatWouldFollowFromIt() {
        SkittleStrings x = alleyOf(1, "01346");
        x.throwBall(0, 1);
        checks.same("standing", "034", pinsThatStand(x));
        checks.same("falling behind the pin 1", 2, x.wouldFall(4, 2));
    }

    void allThatFollowsFromAPinComesAheadOfTheBallsNextHit() {
        SkittleStrings x = alleyOf(1, "0146");
        checks.same("falling", 3, x.throwBall(4, 2));
        checks.same("standing", "6", pinsThatStand(x));
    }

    void eachPinThatFallsWearsBy1() {
        SkittleStrings x = alley(1);
        x.throwBall(4, 2);
        checks.same("wears", "1 1 1 1 1 1 0 0 1", wears(x));
    }
}
