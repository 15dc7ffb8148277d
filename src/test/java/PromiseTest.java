/** The promises one by one, with answers worked out by hand from the document. */
public final class PromiseTest extends Suite {
    private static final int[] TOO_SMALL_AND_TOO_LARGE = {-1, Integer.MIN_VALUE, 100, Integer.MAX_VALUE};

    private PromiseTest() {
    }

    public static void main(String[] args) {
        PromiseTest test = new PromiseTest();
        test.theGame();
        test.theAlley();
        test.theScore();
        test.whatWouldBe();
        test.checks.finish();
    }

    private void theGame() {
        promise1();
        promise2();
        promise3Falls();
        promise3Chains();
        promise3Frames();
        promise3Refusals();
        promise4();
        promise4BrokenPin();
        promise5();
        promise6();
    }

    private void theAlley() {
        promise7();
        promise8();
        promise9();
        promise10();
        promise11();
        promise12();
        promise13();
        promise14();
    }

    private void theScore() {
        promise15();
        promise16();
        promise17And18();
        promise19();
        promise20();
        promise21();
        promise22();
        promise22AllBroken();
        promise23And24();
        promise25();
    }

    private void whatWouldBe() {
        promise26And27();
        promise28();
        promise29();
        promise30();
        promise31();
        promise32();
    }

    // ---- the game

    private void promise1() {
        SkittleStrings x = new SkittleStrings();
        checks.same("players of a new object", 0, x.players());
        checks.same("pins of a new object", "012345678", pinsThatStand(x));
        checks.same("wears of a new object", "0 0 0 0 0 0 0 0 0", wears(x));
        checks.same("balls of a new object", "0 0 0 0 0", away(x));
        checks.same("spare strings of a new object", 3, x.spareStrings());
        SkittleStrings other = alley(1);
        other.throwBall(4, 2);
        checks.same("pins of an object beside another", "012345678", pinsThatStand(x));
    }

    private void promise2() {
        SkittleStrings x = new SkittleStrings();
        for (int i = 0; i < 4; i++) {
            checks.same("addPlayer of player " + i, i, x.addPlayer());
        }
        checks.badState("addPlayer of a fifth", x::addPlayer);
        checks.same("players behind a refused one", 4, x.players());

        SkittleStrings begun = alley(1);
        begun.throwBall(0, 0);
        checks.badState("addPlayer behind a throw", begun::addPlayer);
        begun.newGame();
        checks.same("addPlayer in a new game", 1, begun.addPlayer());
        SkittleStrings over = finishedGame();
        checks.badState("addPlayer behind a game", over::addPlayer);
    }

    private void promise3Falls() {
        int[][] due = {
            {1, 2, 2, 2, 1},
            {2, 4, 5, 4, 2},
            {2, 5, 7, 5, 2},
            {3, 5, 7, 5, 3},
            {3, 5, 7, 5, 3},
        };
        for (int ball = 0; ball < 5; ball++) {
            for (int lane = 0; lane < 5; lane++) {
                SkittleStrings x = alley(1);
                String call = "throwBall(" + ball + ", " + lane + ")";
                checks.same(call, due[ball][lane], x.throwBall(ball, lane));
                checks.same("standing behind " + call, 9 - due[ball][lane], x.standing());
            }
        }
    }

    private void promise3Chains() {
        checkLeft(0, 2, "1235678");
        checkLeft(1, 2, "3567");
        checkLeft(2, 2, "35");
        checkLeft(3, 2, "67");
        checkLeft(2, 1, "0257");
        checkLeft(3, 1, "0258");
        checkLeft(4, 0, "012457");
        checkLeft(4, 4, "012346");
        SkittleStrings x = alley(1);
        x.throwBall(2, 2);
        checks.same("wears behind a throw", "1 1 1 0 1 0 1 1 1", wears(x));
        checks.same("a ball past fallen pins keeps its force", 1, x.throwBall(0, 0));
        checks.same("a ball along an empty lane", 0, x.throwBall(1, 2));
    }

    private void checkLeft(int ball, int lane, String due) {
        SkittleStrings x = alley(1);
        x.throwBall(ball, lane);
        checks.same("pins behind throwBall(" + ball + ", " + lane + ")", due, pinsThatStand(x));
    }

    private void promise3Frames() {
        SkittleStrings x = alley(2);
        x.throwBall(0, 0);
        x.throwBall(1, 0);
        checks.same("the turn in a frame", 0, x.playerInTurn());
        checks.same("pins in a frame", "01245678", pinsThatStand(x));
        x.throwBall(2, 0);
        checks.same("the turn behind three throws", 1, x.playerInTurn());
        checks.same("pins behind a frame", "012345678", pinsThatStand(x));
        x.throwBall(3, 2);
        x.throwBall(1, 1);
        x.throwBall(4, 3);
        checks.same("the turn behind the last player", 0, x.playerInTurn());
        checks.same("the frame behind the last player", 1, x.frame());

        SkittleStrings over = finishedGame();
        checks.same("pins behind the last frame", "67", pinsThatStand(over));
        SkittleStrings cleared = alley(1);
        for (int i = 0; i < 10; i++) {
            spareFrame(cleared);
        }
        checks.same("pins behind a cleared last frame", "", pinsThatStand(cleared));
    }

    private void promise3Refusals() {
        SkittleStrings x = alley(1);
        x.throwBall(3, 0);
        long before = x.digest();
        for (int wrong : new int[] {-1, 5, Integer.MIN_VALUE, Integer.MAX_VALUE}) {
            checks.outOfBounds("throwBall(" + wrong + ", 0)", () -> x.throwBall(wrong, 0));
            checks.outOfBounds("throwBall(0, " + wrong + ")", () -> x.throwBall(0, wrong));
            checks.outOfBounds("throwBall of an away ball along " + wrong, () -> x.throwBall(3, wrong));
        }
        checks.badState("throwBall of an away ball", () -> x.throwBall(3, 0));
        checks.same("digest behind refused throws", before, x.digest());

        SkittleStrings empty = new SkittleStrings();
        checks.badState("throwBall without players", () -> empty.throwBall(0, 0));
        checks.outOfBounds("throwBall(5, 0) without players", () -> empty.throwBall(5, 0));
        SkittleStrings over = finishedGame();
        checks.badState("throwBall behind a game", () -> over.throwBall(0, 0));
        checks.outOfBounds("throwBall(0, 5) behind a game", () -> over.throwBall(0, 5));
    }

    private void promise4() {
        SkittleStrings x = alley(1);
        x.throwBall(4, 2);
        checks.same("replaceString(0)", 2, x.replaceString(0));
        checks.same("wears behind it", "0 1 1 1 1 1 0 0 1", wears(x));
        checks.same("a fallen pin with a new string", false, x.isStanding(0));
        checks.same("replaceString of a standing pin", 1, x.replaceString(6));
        checks.same("a standing pin with a new string", true, x.isStanding(6));
        for (int wrong : new int[] {-1, 9, Integer.MIN_VALUE, Integer.MAX_VALUE}) {
            checks.outOfBounds("replaceString(" + wrong + ")", () -> x.replaceString(wrong));
        }
        checks.same("the last spare string", 0, x.replaceString(8));
        long before = x.digest();
        checks.badState("replaceString without spare strings", () -> x.replaceString(1));
        checks.outOfBounds("replaceString(9) without spare strings", () -> x.replaceString(9));
        checks.same("digest behind refused strings", before, x.digest());
    }

    private void promise4BrokenPin() {
        SkittleStrings x = wornAlley();
        x.replaceString(8);
        checks.same("a new string of a broken pin", false, x.isBroken(8));
        checks.same("pins ahead of the next frame", "67", pinsThatStand(x));
        x.throwBall(0, 2);
        checks.same("pins within the frame", "67", pinsThatStand(x));
        x.throwBall(1, 1);
        x.throwBall(3, 3);
        checks.same("pins of the next frame", "8", pinsThatStand(x));

        SkittleStrings again = wornAlley();
        again.replaceString(3);
        again.newGame();
        checks.same("pins of another game", "367", pinsThatStand(again));

        SkittleStrings broken = brokenAlley();
        broken.replaceString(0);
        checks.same("a throw in a frame without pins", 0, broken.throwBall(1, 2));
        checks.same("pins behind a frame without pins", "0", pinsThatStand(broken));
    }

    private void promise5() {
        SkittleStrings x = new SkittleStrings();
        checks.same("buyStrings(1)", 4, x.buyStrings(1));
        checks.same("buyStrings(20)", 24, x.buyStrings(20));
        for (int wrong : new int[] {0, 21, -1, Integer.MIN_VALUE, Integer.MAX_VALUE}) {
            checks.badArgument("buyStrings(" + wrong + ")", () -> x.buyStrings(wrong));
        }
        checks.same("spare strings behind refused ones", 24, x.spareStrings());
    }

    private void promise6() {
        checks.same("newGame without players", -1, new SkittleStrings().newGame());
        SkittleStrings x = alley(3);
        onePinFrame(x);
        sevenFrame(x);
        sevenFrame(x);
        x.throwBall(0, 0);
        x.replaceString(8);
        checks.same("newGame with two who lead", 1, x.newGame());
        checks.same("players of the new game", 3, x.players());
        checks.same("the turn of the new game", 0, x.playerInTurn());
        checks.same("the frame of the new game", 0, x.frame());
        checks.same("throws in the frame of the new game", 0, x.throwsInFrame());
        checks.same("pins of the new game", "012345678", pinsThatStand(x));
        checks.same("wears of the new game", "2 2 2 4 2 2 0 0 0", wears(x));
        checks.same("balls of the new game", "0 0 0 0 0", away(x));
        checks.same("spare strings of the new game", 2, x.spareStrings());
        for (int player = 0; player < 3; player++) {
            checks.same("throws in the new game", 0, x.throwsOf(player));
            checks.same("score in the new game", 0, x.scoreOf(player));
            checks.same("points in the new game", 0, x.pointsOf(player, 0));
        }
        checks.same("newGame ahead of all throws", 0, x.newGame());

        SkittleStrings second = alley(2);
        onePinFrame(second);
        second.throwBall(3, 2);
        checks.same("newGame within the frame of the player 1", 1, second.newGame());
        checks.same("the turn behind it", 0, second.playerInTurn());
        checks.same("throws in the frame behind it", 0, second.throwsInFrame());

        SkittleStrings spares = finishedGameOfSpares();
        checks.same("newGame behind a game", 0, spares.newGame());
        checks.same("the new game is not over", false, spares.isOver());
        checks.same("spares in the new game", 0, spares.sparesOf(0));
        spares.throwBall(0, 0);
        checks.same("score behind one throw of the new game", 1, spares.scoreOf(0));
        SkittleStrings worn = wornAlley();
        worn.newGame();
        checks.same("pins of a new game in the worn alley", "67", pinsThatStand(worn));
    }

    // ---- the alley

    private void promise7() {
        SkittleStrings x = alley(1);
        x.throwBall(0, 0);
        checks.same("isStanding(3)", false, x.isStanding(3));
        checks.same("isStanding(0)", true, x.isStanding(0));
        checks.same("isStanding(8)", true, x.isStanding(8));
        checks.outOfBounds("isStanding(9)", () -> x.isStanding(9));
        for (int wrong : TOO_SMALL_AND_TOO_LARGE) {
            checks.outOfBounds("isStanding(" + wrong + ")", () -> x.isStanding(wrong));
        }
    }

    private void promise8() {
        SkittleStrings x = alley(1);
        checks.same("standing of a new object", 9, x.standing());
        x.throwBall(4, 2);
        checks.same("standing behind seven", 2, x.standing());
        checks.same("standing with broken strings", 2, wornAlley().standing());
        checks.same("standing with all broken", 0, brokenAlley().standing());
    }

    private void promise9() {
        SkittleStrings x = wornAlley();
        checks.same("wears of the worn alley", "12 12 12 12 12 12 11 11 12", wears(x));
        checks.outOfBounds("wearOf(9)", () -> x.wearOf(9));
        for (int wrong : TOO_SMALL_AND_TOO_LARGE) {
            checks.outOfBounds("wearOf(" + wrong + ")", () -> x.wearOf(wrong));
        }
    }

    private void promise10() {
        SkittleStrings x = wornAlley();
        checks.same("isBroken with 12", true, x.isBroken(0));
        checks.same("isBroken with 11", false, x.isBroken(6));
        x.replaceString(0);
        checks.same("isBroken of a new string", false, x.isBroken(0));
        checks.outOfBounds("isBroken(9)", () -> x.isBroken(9));
        for (int wrong : TOO_SMALL_AND_TOO_LARGE) {
            checks.outOfBounds("isBroken(" + wrong + ")", () -> x.isBroken(wrong));
        }
    }

    private void promise11() {
        checks.same("brokenStrings of a new object", 0, new SkittleStrings().brokenStrings());
        SkittleStrings x = wornAlley();
        checks.same("brokenStrings", 7, x.brokenStrings());
        x.replaceString(4);
        checks.same("brokenStrings behind a new string", 6, x.brokenStrings());
        checks.same("brokenStrings with all broken", 9, brokenAlley().brokenStrings());
    }

    private void promise12() {
        checks.same("mostWorn of a new object", 0, new SkittleStrings().mostWorn());
        SkittleStrings x = alley(1);
        x.throwBall(0, 4);
        checks.same("mostWorn behind one hit", 5, x.mostWorn());
        SkittleStrings worn = wornAlley();
        checks.same("mostWorn of two alike, beside broken ones", 6, worn.mostWorn());
        worn.throwBall(4, 1);
        checks.same("mostWorn behind another break", 7, worn.mostWorn());
        worn.throwBall(0, 3);
        checks.same("mostWorn with all broken", -1, worn.mostWorn());
        worn.replaceString(2);
        checks.same("mostWorn of one new string", 2, worn.mostWorn());
    }

    private void promise13() {
        SkittleStrings x = new SkittleStrings();
        checks.same("spareStrings of a new object", 3, x.spareStrings());
        x.replaceString(0);
        checks.same("spareStrings behind a new string", 2, x.spareStrings());
        x.buyStrings(7);
        checks.same("spareStrings behind seven more", 9, x.spareStrings());
        checks.same("a break takes no spare string", 3, brokenAlley().spareStrings());
    }

    private void promise14() {
        SkittleStrings x = alley(2);
        x.throwBall(0, 0);
        checks.same("balls behind one throw", "2 0 0 0 0", away(x));
        x.throwBall(4, 0);
        checks.same("balls behind two throws", "1 0 0 0 2", away(x));
        x.throwBall(2, 0);
        checks.same("balls behind three throws", "0 0 2 0 1", away(x));
        x.throwBall(0, 0);
        checks.same("balls behind the first one's next throw", "2 0 1 0 0", away(x));
        checks.outOfBounds("awayFor(5)", () -> x.awayFor(5));
        for (int wrong : TOO_SMALL_AND_TOO_LARGE) {
            checks.outOfBounds("awayFor(" + wrong + ")", () -> x.awayFor(wrong));
        }
    }

    // ---- the score

    private void promise15() {
        for (int players = 0; players <= 4; players++) {
            checks.same("players", players, alley(players).players());
        }
        SkittleStrings x = finishedGame();
        checks.same("players behind a game", 1, x.players());
    }

    private void promise16() {
        checks.same("playerInTurn without players", -1, new SkittleStrings().playerInTurn());
        SkittleStrings x = alley(3);
        for (int i = 0; i < 5; i++) {
            checks.same("playerInTurn ahead of frame " + i, i % 3, x.playerInTurn());
            onePinFrame(x);
        }
        checks.same("playerInTurn behind a game", -1, finishedGame().playerInTurn());
    }

    private void promise17And18() {
        SkittleStrings empty = new SkittleStrings();
        checks.same("frame without players", 0, empty.frame());
        checks.same("throwsInFrame without players", 0, empty.throwsInFrame());
        SkittleStrings x = alley(2);
        for (int i = 0; i < 20; i++) {
            checks.same("frame", i / 2, x.frame());
            checks.same("throwsInFrame ahead of all", 0, x.throwsInFrame());
            x.throwBall(0, 0);
            checks.same("throwsInFrame behind one", 1, x.throwsInFrame());
            x.throwBall(1, 0);
            checks.same("throwsInFrame behind two", 2, x.throwsInFrame());
            x.throwBall(2, 0);
        }
        checks.same("frame behind a game", 10, x.frame());
        checks.same("throwsInFrame behind a game", 0, x.throwsInFrame());

        SkittleStrings worn = wornAlley();
        worn.throwBall(4, 1);
        checks.same("throwsInFrame with a pin left", 1, worn.throwsInFrame());
        worn.throwBall(0, 3);
        checks.same("frame behind a spare of two throws", 3, worn.frame());
        checks.same("throwsInFrame behind it", 0, worn.throwsInFrame());
    }

    private void promise19() {
        checks.same("isOver without players", false, new SkittleStrings().isOver());
        SkittleStrings x = alley(2);
        for (int i = 0; i < 19; i++) {
            onePinFrame(x);
        }
        x.throwBall(0, 0);
        x.throwBall(1, 0);
        checks.same("isOver ahead of the last throw", false, x.isOver());
        x.throwBall(2, 0);
        checks.same("isOver behind the last throw", true, x.isOver());
    }

    private void promise20() {
        SkittleStrings x = alley(2);
        onePinFrame(x);
        x.throwBall(0, 0);
        checks.same("throwsOf(0)", 3, x.throwsOf(0));
        checks.same("throwsOf(1)", 1, x.throwsOf(1));
        checks.same("throwsOf(0) behind a game", 30, finishedGame().throwsOf(0));
        checks.same("throwsOf(0) behind a short frame", 8, brokenAlley().throwsOf(0));
        checks.outOfBounds("throwsOf(2) of two", () -> x.throwsOf(2));
        checks.outOfBounds("throwsOf(0) of none", () -> alley(0).throwsOf(0));
        for (int wrong : TOO_SMALL_AND_TOO_LARGE) {
            checks.outOfBounds("throwsOf(" + wrong + ")", () -> x.throwsOf(wrong));
        }
    }

    private void promise21() {
        SkittleStrings x = alley(2);
        spareFrame(x);
        checks.same("scoreOf(0) behind a spare", 9, x.scoreOf(0));
        x.throwBall(0, 0);
        checks.same("scoreOf(0) behind the other's throw", 9, x.scoreOf(0));
        checks.same("scoreOf(1) behind a throw", 1, x.scoreOf(1));
        checks.same("scoreOf(0) behind a game of sevens", 70, finishedGame().scoreOf(0));
        checks.same("scoreOf(0) behind a game of spares", 153, finishedGameOfSpares().scoreOf(0));
        checks.outOfBounds("scoreOf(2) of two", () -> x.scoreOf(2));
        checks.outOfBounds("scoreOf(0) of none", () -> alley(0).scoreOf(0));
        for (int wrong : TOO_SMALL_AND_TOO_LARGE) {
            checks.outOfBounds("scoreOf(" + wrong + ")", () -> x.scoreOf(wrong));
        }
    }

    private void promise22() {
        SkittleStrings x = alley(2);
        x.throwBall(4, 2);
        checks.same("pointsOf(0, 0) within the frame", 7, x.pointsOf(0, 0));
        x.throwBall(3, 1);
        x.throwBall(2, 3);
        onePinFrame(x);
        checks.same("pointsOf(0, 0), a spare without a next throw", 9, x.pointsOf(0, 0));
        checks.same("pointsOf(0, 1) ahead of it", 0, x.pointsOf(0, 1));
        x.throwBall(3, 2);
        checks.same("pointsOf(0, 0), a spare with its next throw", 16, x.pointsOf(0, 0));
        x.throwBall(4, 1);
        checks.same("pointsOf(0, 0) behind the throw after that", 16, x.pointsOf(0, 0));
        checks.same("pointsOf(1, 0), no spare", 1, x.pointsOf(1, 0));
        checks.same("pointsOf(0, 9) of a last spare", 9, finishedGameOfSpares().pointsOf(0, 9));
        checks.same("pointsOf(0, 9) ahead of it", 0, x.pointsOf(0, 9));
        checks.outOfBounds("pointsOf(0, 10)", () -> x.pointsOf(0, 10));
        checks.outOfBounds("pointsOf(2, 0) of two", () -> x.pointsOf(2, 0));
        checks.outOfBounds("pointsOf(0, 0) of none", () -> alley(0).pointsOf(0, 0));
        for (int wrong : TOO_SMALL_AND_TOO_LARGE) {
            checks.outOfBounds("pointsOf(" + wrong + ", 0)", () -> x.pointsOf(wrong, 0));
            checks.outOfBounds("pointsOf(0, " + wrong + ")", () -> x.pointsOf(0, wrong));
        }
    }

    private void promise22AllBroken() {
        SkittleStrings x = brokenAlley();
        checks.same("a throw without pins", 0, x.throwBall(1, 2));
        checks.same("the frame behind it", 4, x.frame());
        checks.same("points of it", 0, x.pointsOf(0, 3));
        checks.same("points of the spare ahead of it", 2, x.pointsOf(0, 2));
        checks.same("strikes with it", 0, x.strikesOf(0));
        checks.same("spares with it", 2, x.sparesOf(0));
    }

    private void promise23And24() {
        SkittleStrings x = wornAlley();
        checks.same("sparesOf(0) behind one of three throws", 1, x.sparesOf(0));
        x.replaceString(8);
        x.throwBall(4, 1);
        x.throwBall(0, 3);
        checks.same("sparesOf(0) behind one of two throws", 2, x.sparesOf(0));
        checks.same("strikesOf(0) behind spares", 0, x.strikesOf(0));
        x.throwBall(1, 2);
        checks.same("strikesOf(0) behind a strike", 1, x.strikesOf(0));
        checks.same("sparesOf(0) behind a strike", 2, x.sparesOf(0));
        checks.same("pointsOf the spare", 3, x.pointsOf(0, 2));
        checks.same("pointsOf the strike", 1, x.pointsOf(0, 3));
        x.throwBall(2, 0);
        checks.same("pointsOf the strike and a miss", 1, x.pointsOf(0, 3));
        x.throwBall(3, 2);
        checks.same("pointsOf the strike and two throws", 2, x.pointsOf(0, 3));
        x.throwBall(4, 2);
        checks.same("pointsOf the strike and three throws", 2, x.pointsOf(0, 3));
        checks.same("strikesOf(0) behind two", 2, x.strikesOf(0));
        checks.same("sparesOf(0) behind three", 3, x.sparesOf(0));
        checks.same("pointsOf the spare ahead of a strike", 2, x.pointsOf(0, 4));
        checks.outOfBounds("strikesOf(1) of one", () -> x.strikesOf(1));
        checks.outOfBounds("sparesOf(1) of one", () -> x.sparesOf(1));
        for (int wrong : TOO_SMALL_AND_TOO_LARGE) {
            checks.outOfBounds("strikesOf(" + wrong + ")", () -> x.strikesOf(wrong));
            checks.outOfBounds("sparesOf(" + wrong + ")", () -> x.sparesOf(wrong));
        }
    }

    private void promise25() {
        checks.same("leader without players", -1, new SkittleStrings().leader());
        SkittleStrings x = alley(3);
        checks.same("leader ahead of all throws", 0, x.leader());
        onePinFrame(x);
        checks.same("leader behind one frame", 0, x.leader());
        sevenFrame(x);
        checks.same("leader behind two frames", 1, x.leader());
        sevenFrame(x);
        checks.same("leader of two alike", 1, x.leader());
        checks.same("leader behind a game", 0, finishedGame().leader());
    }

    // ---- what would be

    private void promise26And27() {
        SkittleStrings x = alley(1);
        int[][] last = {
            {3, 6, 4, 7, 5},
            {6, 6, 8, 7, 7},
            {6, 8, 8, 8, 7},
            {8, 7, 8, 7, 8},
            {8, 7, 8, 7, 8},
        };
        for (int ball = 0; ball < 5; ball++) {
            for (int lane = 0; lane < 5; lane++) {
                String of = "(" + ball + ", " + lane + ")";
                checks.same("wouldFall" + of, alley(1).throwBall(ball, lane), x.wouldFall(ball, lane));
                checks.same("lastToFall" + of, last[ball][lane], x.lastToFall(ball, lane));
            }
        }
        x.throwBall(4, 2);
        long before = x.digest();
        checks.same("wouldFall of an away ball", 1, x.wouldFall(4, 1));
        checks.same("lastToFall of an away ball", 7, x.lastToFall(4, 3));
        checks.same("wouldFall without a pin", 0, x.wouldFall(4, 2));
        checks.same("lastToFall without a pin", -1, x.lastToFall(4, 2));
        for (int wrong : new int[] {-1, 5, Integer.MIN_VALUE, Integer.MAX_VALUE}) {
            checks.outOfBounds("wouldFall(" + wrong + ", 0)", () -> x.wouldFall(wrong, 0));
            checks.outOfBounds("wouldFall(0, " + wrong + ")", () -> x.wouldFall(0, wrong));
            checks.outOfBounds("lastToFall(" + wrong + ", 0)", () -> x.lastToFall(wrong, 0));
            checks.outOfBounds("lastToFall(0, " + wrong + ")", () -> x.lastToFall(0, wrong));
        }
        checks.same("digest behind what would be", before, x.digest());
        checks.same("wouldFall without players", 7, alley(0).wouldFall(4, 2));
        checks.same("wouldFall behind a game", 1, finishedGame().wouldFall(4, 1));
    }

    private void promise28() {
        SkittleStrings x = alley(1);
        checks.same("bestThrow of a new game", 22, x.bestThrow());
        x.throwBall(2, 0);
        checks.same("bestThrow without the ball 2", 32, x.bestThrow());
        x.throwBall(3, 2);
        checks.same("bestThrow of several alike", 3, x.bestThrow());
        checks.same("balls behind bestThrow", "0 0 1 2 0", away(x));
        checks.same("pins behind bestThrow", "7", pinsThatStand(x));
        SkittleStrings broken = brokenAlley();
        checks.same("bestThrow without pins", 10, broken.bestThrow());
        checks.same("bestThrow without players", 22, alley(0).bestThrow());
    }

    private void promise29() {
        SkittleStrings x = alley(1);
        checks.same("throwsToClear of nine", 2, x.throwsToClear());
        x.throwBall(4, 2);
        checks.same("throwsToClear of 6 and 7", 2, x.throwsToClear());
        x.throwBall(3, 1);
        checks.same("throwsToClear of 7", 1, x.throwsToClear());
        SkittleStrings three = wornAlley();
        three.replaceString(0);
        three.throwBall(0, 2);
        three.throwBall(1, 2);
        three.throwBall(4, 2);
        checks.same("pins of which none hits another", "067", pinsThatStand(three));
        checks.same("throwsToClear of them", 3, three.throwsToClear());
        checks.same("pins behind throwsToClear", "067", pinsThatStand(three));
        SkittleStrings apart = alley(1);
        apart.throwBall(2, 2);
        checks.same("pins apart", "35", pinsThatStand(apart));
        checks.same("throwsToClear of 3 and 5", 2, apart.throwsToClear());
        checks.same("throwsToClear with all broken", 0, brokenAlley().throwsToClear());
        checks.same("throwsToClear without players", 2, alley(0).throwsToClear());
    }

    private void promise30() {
        checks.same("wouldBreak of a new object", 0, alley(0).wouldBreak());
        SkittleStrings x = wornAlley();
        checks.same("wouldBreak in the worn alley", 9, x.wouldBreak());
        x.replaceString(6);
        checks.same("wouldBreak with a new string", 8, x.wouldBreak());
        checks.same("wouldBreak with all broken", 9, brokenAlley().wouldBreak());

        SkittleStrings eleven = alley(1);
        for (int i = 0; i < 10; i++) {
            sevenFrame(eleven);
        }
        eleven.newGame();
        eleven.throwBall(4, 2);
        checks.same("wouldBreak of fallen pins worn by 11", 0, eleven.wouldBreak());
        eleven.throwBall(3, 2);
        eleven.throwBall(2, 2);
        checks.same("wouldBreak of standing pins worn by 11", 7, eleven.wouldBreak());
        checks.same("wouldBreak changes nothing", 0, eleven.brokenStrings());
    }

    private void promise31() {
        checks.same("meanScore without players", 0.0, alley(0).meanScore());
        SkittleStrings x = alley(3);
        checks.same("meanScore ahead of all throws", 0.0, x.meanScore());
        sevenFrame(x);
        onePinFrame(x);
        checks.same("meanScore of 7, 1 and 0", 8.0 / 3.0, x.meanScore());
        checks.same("meanScore of one", 70.0, finishedGame().meanScore());
    }

    private void promise32() {
        checks.same("digest of a new object", digestByCalls(alley(0)), alley(0).digest());
        checks.same("digest of a game", digestByCalls(finishedGameOfSpares()), finishedGameOfSpares().digest());
        checks.same("digest of the worn alley", digestByCalls(wornAlley()), wornAlley().digest());
        checks.same("digest of the broken alley", digestByCalls(brokenAlley()), brokenAlley().digest());
        SkittleStrings x = alley(4);
        spareFrame(x);
        sevenFrame(x);
        x.buyStrings(20);
        x.replaceString(3);
        x.throwBall(0, 4);
        checks.same("digest of four players", digestByCalls(x), x.digest());
        checks.same("digest again", x.digest(), x.digest());
    }

    private static long digestByCalls(SkittleStrings x) {
        long d = 1999;
        d = d * 31 + x.players();
        d = d * 31 + x.playerInTurn();
        d = d * 31 + x.frame();
        d = d * 31 + x.throwsInFrame();
        d = d * 31 + x.spareStrings();
        d = d * 31 + x.bestThrow();
        d = d * 31 + x.throwsToClear();
        for (int pin = 0; pin < 9; pin++) {
            d = d * 31 + (x.isStanding(pin) ? 1 : 0);
            d = d * 31 + x.wearOf(pin);
        }
        for (int ball = 0; ball < 5; ball++) {
            d = d * 31 + x.awayFor(ball);
        }
        for (int player = 0; player < x.players(); player++) {
            d = d * 31 + x.throwsOf(player);
            d = d * 31 + x.scoreOf(player);
            d = d * 31 + x.strikesOf(player);
            d = d * 31 + x.sparesOf(player);
            for (int frame = 0; frame < 10; frame++) {
                d = d * 31 + x.pointsOf(player, frame);
            }
        }
        return d;
    }
}
