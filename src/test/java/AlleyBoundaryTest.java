/** The promises 7 to 14, the alley: each boundary case that they name, in a test of its own. */
public final class AlleyBoundaryTest extends Suite {
    private AlleyBoundaryTest() {
    }

    public static void main(String[] args) {
        new AlleyBoundaryTest().runAll();
    }

    // ---- Promise 7: isStanding

    void isStandingTakesThePins0To8() {
        takesNumbersBelow(9, Suite::begun, SkittleStrings::isStanding);
    }

    void isStandingTellsTheFirstAndTheLastPin() {
        SkittleStrings x = alley(1);
        checks.same("isStanding(0)", true, x.isStanding(0));
        checks.same("isStanding(8)", true, x.isStanding(8));
        x.throwBall(4, 2);
        checks.same("isStanding(0) of a fallen one", false, x.isStanding(0));
        checks.same("isStanding(8) of a fallen one", false, x.isStanding(8));
    }

    void isStandingTellsNoneWithAllBroken() {
        checks.same("standing", "", pinsThatStand(brokenAlley()));
    }

    // ---- Promise 8: standing

    void standingTells9OfAll() {
        checks.same("standing()", 9, new SkittleStrings().standing());
    }

    void standingTells0IfNoneStands() {
        checks.same("standing() with all broken", 0, brokenAlley().standing());
        checks.same("standing() behind a cleared last frame", 0, finishedGameOfSpares().standing());
    }

    void standingTells1OfOne() {
        SkittleStrings x = begun();
        x.throwBall(0, 1);
        checks.same("standing()", 1, x.standing());
    }

    void standingDoesNotTellANewStringAheadOfTheNextFrame() {
        SkittleStrings x = begun();
        x.replaceString(0);
        checks.same("standing()", 2, x.standing());
    }

    // ---- Promise 9: wearOf

    void wearOfTakesThePins0To8() {
        takesNumbersBelow(9, Suite::begun, SkittleStrings::wearOf);
    }

    void wearOfTells0OfAnUnwornString() {
        checks.same("wearOf(6)", 0, begun().wearOf(6));
    }

    void wearOfTells12OfABrokenString() {
        checks.same("wearOf(0)", 12, brokenAlley().wearOf(0));
        checks.same("wearOf(8)", 12, brokenAlley().wearOf(8));
    }

    void wearOfTells0OfANewString() {
        SkittleStrings x = brokenAlley();
        x.replaceString(0);
        checks.same("wearOf(0)", 0, x.wearOf(0));
    }

    // ---- Promise 10: isBroken

    void isBrokenTakesThePins0To8() {
        takesNumbersBelow(9, Suite::begun, SkittleStrings::isBroken);
    }

    void isBrokenTellsNoWithTheWear11() {
        SkittleStrings x = pin8WornBy(11);
        checks.same("isBroken(8)", false, x.isBroken(8));
    }

    void isBrokenTellsYesWithTheWear12() {
        SkittleStrings x = pin8WornBy(12);
        checks.same("isBroken(8)", true, x.isBroken(8));
    }

    void isBrokenTellsNoOfAFallenPinWithoutABrokenString() {
        checks.same("isBroken(0)", false, begun().isBroken(0));
    }

    void isBrokenTellsYesAsSoonAsThePinFalls() {
        SkittleStrings x = wornAlley();
        x.throwBall(4, 1);
        checks.same("the frame", 2, x.frame());
        checks.same("isBroken(6)", true, x.isBroken(6));
        checks.same("isBroken(7)", false, x.isBroken(7));
    }

    void isBrokenTellsNoAsSoonAsThereIsANewString() {
        SkittleStrings x = brokenAlley();
        x.replaceString(8);
        checks.same("isBroken(8)", false, x.isBroken(8));
    }

    // ---- Promise 11: brokenStrings

    void brokenStringsTells0AtFirst() {
        checks.same("brokenStrings()", 0, new SkittleStrings().brokenStrings());
    }

    void brokenStringsTells0WithTheWear11() {
        SkittleStrings x = alley(1);
        for (int i = 0; i < 10; i++) {
            sevenFrame(x);
        }
        x.newGame();
        sevenFrame(x);
        checks.same("wears", "11 11 11 11 11 11 0 0 11", wears(x));
        checks.same("brokenStrings()", 0, x.brokenStrings());
        x.throwBall(4, 2);
        checks.same("brokenStrings() with the wear 12", 7, x.brokenStrings());
    }

    void brokenStringsTells9OfAll() {
        checks.same("brokenStrings()", 9, brokenAlley().brokenStrings());
    }

    void brokenStringsTellsOneLessBehindANewString() {
        SkittleStrings x = brokenAlley();
        x.replaceString(0);
        checks.same("brokenStrings()", 8, x.brokenStrings());
    }

    // ---- Promise 12: mostWorn

    void mostWornTells0OfAllUnworn() {
        checks.same("mostWorn()", 0, new SkittleStrings().mostWorn());
    }

    void mostWornTellsTheSmallestNumberOfSeveral() {
        SkittleStrings x = alley(1);
        x.throwBall(4, 4);
        checks.same("wears", "0 0 0 0 0 1 0 1 1", wears(x));
        checks.same("mostWorn()", 5, x.mostWorn());
    }

    void mostWornTellsTheLastPin() {
        SkittleStrings x = alleyOf(1, "0123678");
        x.throwBall(0, 2);
        x.throwBall(1, 2);
        checks.same("wears", "1 0 0 0 12 12 0 0 1", wears(x));
        x.replaceString(0);
        checks.same("mostWorn()", 8, x.mostWorn());
    }

    void mostWornTellsAPinWithTheWear11() {
        checks.same("mostWorn()", 8, pin8WornBy(11).mostWorn());
    }

    void mostWornDoesNotTellABrokenString() {
        SkittleStrings x = pin8WornBy(12);
        x.replaceString(3);
        checks.same("mostWorn()", 3, x.mostWorn());
    }

    void mostWornTellsMinus1IfAllAreBroken() {
        checks.same("mostWorn()", -1, brokenAlley().mostWorn());
    }

    void mostWornTellsTheOneThatIsNotBroken() {
        SkittleStrings x = brokenAlley();
        x.replaceString(8);
        checks.same("mostWorn()", 8, x.mostWorn());
    }

    void mostWornTellsAFallenPinToo() {
        checks.same("mostWorn()", 0, begun().mostWorn());
    }

    // ---- Promise 13: spareStrings

    void spareStringsTells3AtFirst() {
        checks.same("spareStrings()", 3, new SkittleStrings().spareStrings());
    }

    void spareStringsTells0IfNoneIsLeft() {
        SkittleStrings x = new SkittleStrings();
        for (int pin = 0; pin < 3; pin++) {
            x.replaceString(pin);
        }
        checks.same("spareStrings()", 0, x.spareStrings());
        checks.badState("replaceString(0)", () -> x.replaceString(0));
        checks.same("spareStrings() behind a refused one", 0, x.spareStrings());
    }

    void spareStringsTellsMoreThan20() {
        SkittleStrings x = new SkittleStrings();
        x.buyStrings(20);
        x.buyStrings(20);
        checks.same("spareStrings()", 43, x.spareStrings());
    }

    // ---- Promise 14: awayFor

    void awayForTakesTheBalls0To4() {
        takesNumbersBelow(5, Suite::begun, SkittleStrings::awayFor);
    }

    void awayForTells0OfABallThatIsNotAway() {
        checks.same("balls", "0 0 0 0 2", away(begun()));
    }

    void awayForTells2And1And0BehindAThrow() {
        SkittleStrings x = begun();
        checks.same("awayFor(4)", 2, x.awayFor(4));
        x.throwBall(3, 0);
        checks.same("awayFor(4) behind another throw", 1, x.awayFor(4));
        x.throwBall(2, 0);
        checks.same("awayFor(4) behind two", 0, x.awayFor(4));
        x.throwBall(1, 0);
        checks.same("awayFor(4) behind three", 0, x.awayFor(4));
    }

    void awayForTells2AgainOfABallThrownAgain() {
        SkittleStrings x = begun();
        x.throwBall(3, 0);
        x.throwBall(2, 0);
        x.throwBall(4, 0);
        checks.same("balls", "0 0 1 0 2", away(x));
    }

    void awayForGoesOnBehindTheEndOfAFrame() {
        SkittleStrings x = alley(1);
        sevenFrame(x);
        checks.same("balls", "0 0 2 1 0", away(x));
    }

    void awayForStaysBehindTheGame() {
        SkittleStrings x = finishedGame();
        checks.same("balls", "0 0 2 1 0", away(x));
    }

    void awayForTells0InANewGame() {
        SkittleStrings x = finishedGame();
        x.newGame();
        checks.same("balls", "0 0 0 0 0", away(x));
    }

    void awayForTells0WithoutPlayers() {
        checks.same("balls", "0 0 0 0 0", away(new SkittleStrings()));
    }

    // ---- "Nothing is promised beyond the answers and state changes described": what is asked changes nothing

    void isStandingChangesNothing() {
        changesNothing(x -> x.isStanding(6));
    }

    void standingChangesNothing() {
        changesNothing(SkittleStrings::standing);
    }

    void wearOfChangesNothing() {
        changesNothing(x -> x.wearOf(6));
    }

    void isBrokenChangesNothing() {
        changesNothing(x -> x.isBroken(6));
    }

    void brokenStringsChangesNothing() {
        changesNothing(SkittleStrings::brokenStrings);
    }

    void mostWornChangesNothing() {
        changesNothing(SkittleStrings::mostWorn);
    }

    void spareStringsChangesNothing() {
        changesNothing(SkittleStrings::spareStrings);
    }

    void awayForChangesNothing() {
        changesNothing(x -> x.awayFor(2));
    }
}
