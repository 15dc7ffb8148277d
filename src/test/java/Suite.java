import java.lang.reflect.InvocationTargetException;
import java.lang.reflect.Method;
import java.lang.reflect.Modifier;
import java.util.List;
import java.util.TreeMap;
import java.util.function.BiFunction;
import java.util.function.Function;
import java.util.function.Supplier;

/** A class of tests: the alleys that its tests begin with, what these tell, and calls that are refused. */
abstract class Suite {
    static final Class<IndexOutOfBoundsException> OUT_OF_BOUNDS = IndexOutOfBoundsException.class;
    static final Class<IllegalStateException> BAD_STATE = IllegalStateException.class;
    static final Class<IllegalArgumentException> BAD_ARGUMENT = IllegalArgumentException.class;

    private static final int SPARE_FRAMES_UNTIL_WORN = 10;
    private static final int THROWS_GONE_ON = 30;

    final Checks checks = new Checks(getClass().getSimpleName());

    /** Runs every method of this class that takes nothing and is not private, each as a test, and ends the program. */
    final void runAll() {
        TreeMap<String, Method> tests = new TreeMap<>();
        for (Method method : getClass().getDeclaredMethods()) {
            int modifiers = method.getModifiers();
            if (method.getParameterCount() == 0 && !Modifier.isPrivate(modifiers) && !Modifier.isStatic(modifiers)) {
                tests.put(method.getName(), method);
            }
        }
        tests.forEach(this::run);
        checks.finish();
    }

    private void run(String name, Method test) {
        checks.begin(name);
        try {
            test.invoke(this);
        } catch (InvocationTargetException e) {
            checks.same("the test", "ended", e.getCause());
        } catch (IllegalAccessException e) {
            checks.same("the test", "begun", e);
        }
    }

    // ---- alleys to begin with

    static SkittleStrings alley(int players) {
        SkittleStrings x = new SkittleStrings();
        for (int i = 0; i < players; i++) {
            x.addPlayer();
        }
        return x;
    }

    /** A frame of three throws: 7 pins fall, then none; 6 and 7 stay. */
    static void sevenFrame(SkittleStrings x) {
        x.throwBall(4, 2);
        x.throwBall(3, 2);
        x.throwBall(2, 2);
    }

    /** A spare: 7, 1 and 1 pins fall. */
    static void spareFrame(SkittleStrings x) {
        x.throwBall(4, 2);
        x.throwBall(3, 1);
        x.throwBall(2, 3);
    }

    /** One pin of nine falls. */
    static void onePinFrame(SkittleStrings x) {
        x.throwBall(0, 0);
        x.throwBall(1, 0);
        x.throwBall(2, 0);
    }

    /** The player 0 has thrown the ball 4: 6 and 7 stand. */
    static SkittleStrings begun() {
        SkittleStrings x = alley(1);
        x.throwBall(4, 2);
        return x;
    }

    static SkittleStrings withoutSpareStrings() {
        SkittleStrings x = begun();
        for (int pin = 0; pin < 3; pin++) {
            x.replaceString(pin);
        }
        return x;
    }

    static SkittleStrings finishedGame() {
        return finishedGame(1);
    }

    /** Each player has 70 points, and no frame is a spare. */
    static SkittleStrings finishedGame(int players) {
        SkittleStrings x = alley(players);
        for (int i = 0; i < 10 * players; i++) {
            if (i % 10 == 0) {
                // The strings would break otherwise.
                replaceAll(x, "012345678");
            }
            sevenFrame(x);
        }
        return x;
    }

    static SkittleStrings finishedGameOfSpares() {
        SkittleStrings x = alley(1);
        for (int i = 0; i < SPARE_FRAMES_UNTIL_WORN; i++) {
            spareFrame(x);
        }
        return x;
    }

    /**
     * The frame 2 of a second game begins. The strings of all pins but 6 and 7 are broken, and these two
     * are worn by 11; 6 throws were thrown in this game; the ball 3 is away for one throw, the ball 2 for two.
     */
    static SkittleStrings wornAlley() {
        SkittleStrings x = finishedGameOfSpares();
        x.newGame();
        spareFrame(x);
        sevenFrame(x);
        return x;
    }

    /** The worn alley a frame later: with a spare it broke the strings of 6 and 7 too. */
    static SkittleStrings brokenAlley() {
        SkittleStrings x = wornAlley();
        x.throwBall(4, 1);
        x.throwBall(0, 3);
        return x;
    }

    /** A new game, with 3 spare strings, in which these pins stand with new strings and all others are broken. */
    static SkittleStrings alleyOf(int players, String pins) {
        SkittleStrings x = brokenAlley();
        replaceAll(x, pins);
        x.newGame();
        for (int i = 1; i < players; i++) {
            x.addPlayer();
        }
        return x;
    }

    /** A new game in which the pin 8 alone can stand, with a string of this wear. */
    static SkittleStrings pin8WornBy(int wear) {
        SkittleStrings x = alleyOf(1, "8");
        for (int i = 0; i < wear; i++) {
            if (x.isOver()) {
                x.newGame();
            }
            roll(x, 2);
        }
        x.newGame();
        return x;
    }

    // ---- what is done with them

    /** Puts new strings in, and buys as many before. */
    static void replaceAll(SkittleStrings x, String pins) {
        if (!pins.isEmpty()) {
            x.buyStrings(pins.length());
        }
        for (char pin : pins.toCharArray()) {
            x.replaceString(pin - '0');
        }
    }

    /** Throws the ball of the smallest number that is not away. */
    static int roll(SkittleStrings x, int lane) {
        int ball = 0;
        while (x.awayFor(ball) > 0) {
            ball++;
        }
        return x.throwBall(ball, lane);
    }

    static void roll(SkittleStrings x, int lane, int times) {
        for (int i = 0; i < times; i++) {
            roll(x, lane);
        }
    }

    // ---- what they tell

    static String pinsThatStand(SkittleStrings x) {
        StringBuilder pins = new StringBuilder();
        for (int pin = 0; pin < 9; pin++) {
            if (x.isStanding(pin)) {
                pins.append(pin);
            }
        }
        return pins.toString();
    }

    static String wears(SkittleStrings x) {
        return row(9, x::wearOf);
    }

    static String away(SkittleStrings x) {
        return row(5, x::awayFor);
    }

    static String points(SkittleStrings x, int player) {
        return row(10, frame -> x.pointsOf(player, frame));
    }

    private static String row(int count, Function<Integer, Integer> told) {
        StringBuilder row = new StringBuilder();
        for (int i = 0; i < count; i++) {
            row.append(i == 0 ? "" : " ").append(told.apply(i));
        }
        return row.toString();
    }

    /** What is answered if the game goes on: two alleys that are not in the same state soon answer otherwise. */
    static String goOn(SkittleStrings x) {
        StringBuilder told = new StringBuilder().append(x.digest());
        for (int i = 0; i < THROWS_GONE_ON; i++) {
            int ball = i % 5;
            int lane = 2 * i % 5;
            told.append(' ').append(Checks.answer(() -> x.throwBall(ball, lane))).append(' ').append(x.digest());
        }
        told.append(' ').append(x.newGame()).append(' ').append(x.digest());
        told.append(' ').append(Checks.answer(x::addPlayer)).append(' ').append(x.digest());
        return told.toString();
    }

    // ---- calls that change nothing

    /** Within a frame, with worn and with broken strings, and behind a game the alley goes on as if not asked. */
    final void changesNothing(Function<SkittleStrings, Object> call) {
        List<Supplier<SkittleStrings>> alleys =
                List.of(Suite::begun, Suite::wornAlley, Suite::brokenAlley, () -> finishedGame(4));
        for (Supplier<SkittleStrings> made : alleys) {
            SkittleStrings x = made.get();
            call.apply(x);
            checks.same("the game behind it", goOn(made.get()), goOn(x));
        }
    }

    // ---- calls that are refused

    /** The call throws this very exception, and the alley goes on as if it had not been called. */
    final void refuses(String what, Class<?> due, Supplier<SkittleStrings> made, Function<SkittleStrings, Object> call) {
        SkittleStrings x = made.get();
        checks.throwing(what, due, () -> call.apply(x));
        checks.same(what + ", and behind it the game", goOn(made.get()), goOn(x));
    }

    /** The call takes 0 and the last number, and refuses what is below and above. */
    final void takesNumbersBelow(int count, Supplier<SkittleStrings> made,
            BiFunction<SkittleStrings, Integer, Object> call) {
        for (int right : new int[] {0, count - 1}) {
            SkittleStrings x = made.get();
            checks.answering("called with " + right, () -> call.apply(x, right));
        }
        for (int wrong : new int[] {-1, count, Integer.MIN_VALUE, Integer.MAX_VALUE}) {
            refuses("called with " + wrong, OUT_OF_BOUNDS, made, x -> call.apply(x, wrong));
        }
    }
}
