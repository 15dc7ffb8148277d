import java.util.TreeMap;

/** Runs of 512 calls, always the same ones, each answer against the model's. */
public final class ModelTest {
    private static final int RUNS = 900;
    private static final int CALLS = 512;
    private static final int KINDS = 31;
    private static final int MOST_TOLD = 20;

    private final Checks checks = new Checks("ModelTest");
    private final TreeMap<String, Integer> reached = new TreeMap<>();
    private long seed = 20261119;

    private ModelTest() {
    }

    public static void main(String[] args) {
        ModelTest test = new ModelTest();
        for (int run = 0; run < RUNS && test.checks.failed() < MOST_TOLD; run++) {
            test.run(run);
        }
        test.checkReached();
        test.checks.finish();
    }

    private void run(int run) {
        SkittleStrings x = new SkittleStrings();
        Model model = new Model();
        // How eagerly strings are bought and replaced differs from run to run, so that in some all of them break.
        int care = run % 3;
        int players = run % 5;
        for (int i = 0; i < players; i++) {
            checks.same("run " + run + ": addPlayer()", model.addPlayer(), x.addPlayer());
        }
        for (int call = players; call < CALLS; call++) {
            int kind = kindOfCall(care, model);
            int a = kind == 1 ? ballToThrow(model) : argument(kind);
            int b = kind == 20 && next(40) > 0 ? next(11) : argument(kind);
            String what = "run " + run + ", call " + call + ": kind " + kind + " (" + a + ", " + b + ")";
            checks.same(what, Checks.answer(() -> ofModel(model, kind, a, b)), Checks.answer(() -> ofClass(x, kind, a, b)));
            noteReached(model);
        }
    }

    private int next(int bound) {
        seed = seed * 6364136223846793005L + 1442695040888963407L;
        return (int) ((seed >>> 33) % bound);
    }

    /** Mostly throws; a new game mostly behind a game; the rest evenly. */
    private int kindOfCall(int care, Model model) {
        int dice = next(100);
        if (model.isOver() && dice < 40) {
            return 4;
        }
        if (dice < 70) {
            return 1;
        }
        if (dice < 70 + 6 * care) {
            return next(3) == 0 ? 3 : 2;
        }
        if (dice < 85) {
            return 30;
        }
        int kind = next(KINDS);
        return kind == 4 && next(10) > 0 || kind == 2 && care == 0 ? 30 : kind;
    }

    private int ballToThrow(Model model) {
        int ball = next(5);
        for (int i = 0; i < 5 && model.awayFor(ball) > 0 && next(20) > 0; i++) {
            ball = (ball + 1) % 5;
        }
        return next(60) == 0 ? argument(1) : ball;
    }

    private int argument(int kind) {
        if (next(40) == 0) {
            int[] odd = {-1, -2, 4, 5, 9, 10, 20, 21, 0, 100, Integer.MIN_VALUE, Integer.MAX_VALUE};
            return odd[next(odd.length)];
        }
        return kind == 1 || kind >= 24 ? next(5) : kind == 3 ? next(6) : kind >= 18 ? next(4) : next(9);
    }

    private void noteReached(Model model) {
        reached.merge("broken strings " + model.brokenStrings(), 1, Integer::sum);
        reached.merge("throws to clear " + model.throwsToClear(), 1, Integer::sum);
        reached.merge("frame " + model.frame(), 1, Integer::sum);
        for (int player = 0; player < model.players(); player++) {
            reached.merge("strikes " + Math.min(2, model.strikesOf(player)), 1, Integer::sum);
            reached.merge("spares " + Math.min(2, model.sparesOf(player)), 1, Integer::sum);
        }
    }

    /** The runs are worth little if they miss what is rare. */
    private void checkReached() {
        String[] rare = {"broken strings 9", "throws to clear 0", "throws to clear 3", "frame 10", "strikes 2", "spares 2"};
        for (String state : rare) {
            checks.same(state + " was reached", true, reached.getOrDefault(state, 0) > 0);
        }
    }

    private static Object ofClass(SkittleStrings x, int kind, int a, int b) {
        switch (kind) {
            case 0: return x.addPlayer();
            case 1: return x.throwBall(a, b);
            case 2: return x.replaceString(a);
            case 3: return x.buyStrings(a);
            case 4: return x.newGame();
            case 5: return x.isStanding(a);
            case 6: return x.standing();
            case 7: return x.wearOf(a);
            case 8: return x.isBroken(a);
            case 9: return x.brokenStrings();
            case 10: return x.mostWorn();
            case 11: return x.spareStrings();
            case 12: return x.awayFor(a);
            case 13: return x.players();
            case 14: return x.playerInTurn();
            case 15: return x.frame();
            case 16: return x.throwsInFrame();
            case 17: return x.isOver();
            case 18: return x.throwsOf(a);
            case 19: return x.scoreOf(a);
            case 20: return x.pointsOf(a, b);
            case 21: return x.strikesOf(a);
            case 22: return x.sparesOf(a);
            case 23: return x.leader();
            case 24: return x.wouldFall(a, b);
            case 25: return x.lastToFall(a, b);
            case 26: return x.bestThrow();
            case 27: return x.throwsToClear();
            case 28: return x.wouldBreak();
            case 29: return x.meanScore();
            default: return x.digest();
        }
    }

    private static Object ofModel(Model model, int kind, int a, int b) {
        switch (kind) {
            case 0: return model.addPlayer();
            case 1: return model.throwBall(a, b);
            case 2: return model.replaceString(a);
            case 3: return model.buyStrings(a);
            case 4: return model.newGame();
            case 5: return model.isStanding(a);
            case 6: return model.standing();
            case 7: return model.wearOf(a);
            case 8: return model.isBroken(a);
            case 9: return model.brokenStrings();
            case 10: return model.mostWorn();
            case 11: return model.spareStrings();
            case 12: return model.awayFor(a);
            case 13: return model.players();
            case 14: return model.playerInTurn();
            case 15: return model.frame();
            case 16: return model.throwsInFrame();
            case 17: return model.isOver();
            case 18: return model.throwsOf(a);
            case 19: return model.scoreOf(a);
            case 20: return model.pointsOf(a, b);
            case 21: return model.strikesOf(a);
            case 22: return model.sparesOf(a);
            case 23: return model.leader();
            case 24: return model.wouldFall(a, b);
            case 25: return model.lastToFall(a, b);
            case 26: return model.bestThrow();
            case 27: return model.throwsToClear();
            case 28: return model.wouldBreak();
            case 29: return model.meanScore();
            default: return model.digest();
        }
    }
}
