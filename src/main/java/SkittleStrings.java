/** A machine for a skittle alley: pins on strings, house balls, players, frames and scores. */
public final class SkittleStrings {
    private static final int MOST_PLAYERS = 4;
    private static final int FRAMES = 10;
    private static final int THROWS_OF_FRAME = 3;
    private static final int PINS = 9;
    private static final int BALLS = 5;
    private static final int LANES = 5;
    private static final int MOST_STRINGS_BOUGHT = 20;
    private static final int MOST_THROWS_TO_CLEAR = 3;
    private static final int NOBODY = -1;

    private final Alley alley;
    private final Rack rack;
    private final Sheet[] sheets;
    private int playerCount;
    private int turn;
    private int frameNow;
    private int throwsNow;

    public SkittleStrings() {
        alley = new Alley();
        rack = new Rack();
        // All four are made here, so that no later call makes an object.
        sheets = new Sheet[MOST_PLAYERS];
        for (int i = 0; i < sheets.length; i++) {
            sheets[i] = new Sheet();
        }
    }

    // ---- the game

    public int addPlayer() throws IllegalStateException {
        if (playerCount >= MOST_PLAYERS || somethingThrown()) {
            throw new IllegalStateException("there are 4 players, or the game has begun");
        }
        int player = playerCount;
        playerCount++;
        return player;
    }

    public int throwBall(int ball, int lane) throws IndexOutOfBoundsException, IllegalStateException {
        checkThrow(ball, lane);
        int player = playerInTurn();
        if (player == NOBODY || rack.throwsAway(ball) > 0) {
            throw new IllegalStateException("nobody's turn, or the ball is away");
        }
        int fallen = alley.roll(ball, lane);
        rack.send(ball);
        boolean cleared = alley.standingPins() == 0;
        sheets[player].enter(frameNow, fallen, cleared);
        throwsNow++;
        if (cleared || throwsNow >= THROWS_OF_FRAME) {
            endFrame();
        }
        return fallen;
    }

    public int replaceString(int pin) throws IndexOutOfBoundsException, IllegalStateException {
        checkPin(pin);
        if (alley.spares() <= 0) {
            throw new IllegalStateException("no spare string is left");
        }
        alley.replace(pin);
        return alley.spares();
    }

    public int buyStrings(int strings) throws IllegalArgumentException {
        if (strings < 1 || strings > MOST_STRINGS_BOUGHT) {
            throw new IllegalArgumentException("strings is not 1 to 20");
        }
        alley.stock(strings);
        return alley.spares();
    }

    public int newGame() {
        int winner = leader();
        for (int i = 0; i < sheets.length; i++) {
            sheets[i].clear();
        }
        turn = 0;
        frameNow = 0;
        throwsNow = 0;
        rack.returnAll();
        alley.setUp();
        return winner;
    }

    // ---- the alley

    public boolean isStanding(int pin) throws IndexOutOfBoundsException {
        checkPin(pin);
        return Pins.holds(alley.standingPins(), pin);
    }

    public int standing() {
        return Integer.bitCount(alley.standingPins());
    }

    public int wearOf(int pin) throws IndexOutOfBoundsException {
        checkPin(pin);
        return alley.wear(pin);
    }

    public boolean isBroken(int pin) throws IndexOutOfBoundsException {
        checkPin(pin);
        return alley.broken(pin);
    }

    public int brokenStrings() {
        return alley.brokenCount();
    }

    public int mostWorn() {
        return alley.mostWornPin();
    }

    public int spareStrings() {
        return alley.spares();
    }

    public int awayFor(int ball) throws IndexOutOfBoundsException {
        checkBall(ball);
        return rack.throwsAway(ball);
    }

    // ---- the score

    public int players() {
        return playerCount;
    }

    public int playerInTurn() {
        return playerCount == 0 || isOver() ? NOBODY : turn;
    }

    public int frame() {
        return frameNow;
    }

    public int throwsInFrame() {
        return throwsNow;
    }

    public boolean isOver() {
        return frameNow >= FRAMES;
    }

    public int throwsOf(int player) throws IndexOutOfBoundsException {
        checkPlayer(player);
        return sheets[player].thrown();
    }

    public int scoreOf(int player) throws IndexOutOfBoundsException {
        checkPlayer(player);
        return sheets[player].score();
    }

    public int pointsOf(int player, int frame) throws IndexOutOfBoundsException {
        checkPlayer(player);
        checkIndex(frame, FRAMES);
        return sheets[player].points(frame);
    }

    public int strikesOf(int player) throws IndexOutOfBoundsException {
        checkPlayer(player);
        return sheets[player].strikes();
    }

    public int sparesOf(int player) throws IndexOutOfBoundsException {
        checkPlayer(player);
        return sheets[player].spares();
    }

    public int leader() {
        int best = NOBODY;
        int most = -1;
        for (int player = 0; player < playerCount; player++) {
            int score = sheets[player].score();
            if (score > most) {
                best = player;
                most = score;
            }
        }
        return best;
    }

    // ---- what would be

    public int wouldFall(int ball, int lane) throws IndexOutOfBoundsException {
        checkThrow(ball, lane);
        return Integer.bitCount(Pins.felled(alley.standingPins(), ball, lane));
    }

    public int lastToFall(int ball, int lane) throws IndexOutOfBoundsException {
        checkThrow(ball, lane);
        return Pins.last(Pins.felled(alley.standingPins(), ball, lane));
    }

    public int bestThrow() {
        int best = -1;
        int most = -1;
        for (int ball = 0; ball < BALLS; ball++) {
            for (int lane = 0; lane < LANES && rack.throwsAway(ball) == 0; lane++) {
                int fallen = Integer.bitCount(Pins.felled(alley.standingPins(), ball, lane));
                if (fallen > most) {
                    best = 10 * ball + lane;
                    most = fallen;
                }
            }
        }
        return best;
    }

    public int throwsToClear() {
        for (int count = 0; count <= MOST_THROWS_TO_CLEAR; count++) {
            if (Pins.canClear(alley.standingPins(), 0, count)) {
                return count;
            }
        }
        return -1;
    }

    public int wouldBreak() {
        return alley.brokenIfAllFell();
    }

    public double meanScore() {
        if (playerCount == 0) {
            return 0;
        }
        int sum = 0;
        for (int player = 0; player < playerCount; player++) {
            sum += sheets[player].score();
        }
        return (double) sum / playerCount;
    }

    public long digest() {
        long d = 1999;
        d = d * 31 + playerCount;
        d = d * 31 + playerInTurn();
        d = d * 31 + frameNow;
        d = d * 31 + throwsNow;
        d = d * 31 + alley.spares();
        d = d * 31 + bestThrow();
        d = d * 31 + throwsToClear();
        d = alley.digestOn(d);
        d = rack.digestOn(d);
        for (int player = 0; player < playerCount; player++) {
            d = sheets[player].digestOn(d);
        }
        return d;
    }

    // ---- turns

    /** The player 0 throws first in each game. */
    private boolean somethingThrown() {
        return sheets[0].thrown() > 0;
    }

    private void endFrame() {
        throwsNow = 0;
        turn++;
        if (turn >= playerCount) {
            turn = 0;
            frameNow++;
        }
        // Behind the last frame of the game the pins stay as they are.
        if (!isOver()) {
            alley.setUp();
        }
    }

    // ---- arguments

    private void checkPlayer(int player) {
        checkIndex(player, playerCount);
    }

    private static void checkPin(int pin) {
        checkIndex(pin, PINS);
    }

    private static void checkBall(int ball) {
        checkIndex(ball, BALLS);
    }

    private static void checkThrow(int ball, int lane) {
        checkBall(ball);
        checkIndex(lane, LANES);
    }

    private static void checkIndex(int index, int count) {
        if (index < 0 || index >= count) {
            throw new IndexOutOfBoundsException("there is no such number");
        }
    }

    /** How pins knock one another over. A set of pins is an int: the bit p is set if the pin p is in it. */
    private static final class Pins {
        static final int ALL = (1 << PINS) - 1;
        private static final int NONE = -1;
        private static final int ROWS = 5;
        private static final int LEAST_FORCE_OF_BALL = 2;
        private static final int FORCE_LOST_BY_PIN = 2;
        /** The pin at a place, by row * LANES + lane. */
        private static final int[] PLACES = {
            -1, -1, 0, -1, -1,
            -1, 1, -1, 2, -1,
            3, -1, 4, -1, 5,
            -1, 6, -1, 7, -1,
            -1, -1, 8, -1, -1
        };

        private Pins() {
        }

        static boolean holds(int set, int pin) {
            return (set >> pin & 1) != 0;
        }

        /** The pin of the greatest number in the set; -1 if it is empty. */
        static int last(int set) {
            for (int pin = PINS - 1; pin >= 0; pin--) {
                if (holds(set, pin)) {
                    return pin;
                }
            }
            return NONE;
        }

        /** Those of the standing pins that fall by this throw. */
        static int felled(int standing, int ball, int lane) {
            int left = standing;
            int force = ball + LEAST_FORCE_OF_BALL;
            for (int row = 0; row < ROWS && force > 0; row++) {
                int leftBehindRow = afterHit(left, row, lane, force);
                if (leftBehindRow != left) {
                    left = leftBehindRow;
                    force--;
                }
            }
            return standing & ~left;
        }

        /** The pins that still stand once the pin at this place is hit, if one stands there. */
        private static int afterHit(int standing, int row, int lane, int force) {
            int pin = pinAt(row, lane);
            if (force < 1 || pin == NONE || !holds(standing, pin)) {
                return standing;
            }
            int left = standing & ~(1 << pin);
            left = afterHit(left, row + 1, lane - 1, force - FORCE_LOST_BY_PIN);
            return afterHit(left, row + 1, lane + 1, force - FORCE_LOST_BY_PIN);
        }

        /** Whether this many throws, each of another ball that is not a used one, can leave no pin standing. */
        private static boolean canClear(int standing, int usedBalls, int throwsLeft) {
            if (standing == 0 || throwsLeft <= 0) {
                return standing == 0;
            }
            for (int ball = 0; ball < BALLS; ball++) {
                for (int lane = 0; lane < LANES && !holds(usedBalls, ball); lane++) {
                    int felled = felled(standing, ball, lane);
                    // A throw without pins never helps: the others alone would do as well.
                    if (felled != 0 && canClear(standing & ~felled, usedBalls | 1 << ball, throwsLeft - 1)) {
                        return true;
                    }
                }
            }
            return false;
        }

        private static int pinAt(int row, int lane) {
            if (row < 0 || row >= ROWS || lane < 0 || lane >= LANES) {
                return NONE;
            }
            return PLACES[row * LANES + lane];
        }
    }

    /** The pins on their strings, and the spare strings. */
    private static final class Alley {
        private static final int WEAR_OF_BROKEN = 12;
        private static final int SPARES_AT_FIRST = 3;

        private final int[] wears = new int[PINS];
        private int standing = Pins.ALL;
        private int spares = SPARES_AT_FIRST;

        int standingPins() {
            return standing;
        }

        int spares() {
            return spares;
        }

        int wear(int pin) {
            return wears[pin];
        }

        boolean broken(int pin) {
            return wears[pin] >= WEAR_OF_BROKEN;
        }

        void setUp() {
            standing = 0;
            for (int pin = 0; pin < PINS; pin++) {
                if (!broken(pin)) {
                    standing |= 1 << pin;
                }
            }
        }

        /** Answers how many pins fall. */
        int roll(int ball, int lane) {
            int felled = Pins.felled(standing, ball, lane);
            for (int pin = 0; pin < PINS; pin++) {
                if (Pins.holds(felled, pin)) {
                    wears[pin]++;
                }
            }
            standing &= ~felled;
            return Integer.bitCount(felled);
        }

        /** A fallen pin stays down until the pins are set up again; a standing one keeps standing. */
        void replace(int pin) {
            spares--;
            wears[pin] = 0;
        }

        void stock(int strings) {
            spares += strings;
        }

        int brokenCount() {
            int count = 0;
            for (int pin = 0; pin < PINS; pin++) {
                if (broken(pin)) {
                    count++;
                }
            }
            return count;
        }

        int brokenIfAllFell() {
            int count = 0;
            for (int pin = 0; pin < PINS; pin++) {
                int wornBy = Pins.holds(standing, pin) ? 1 : 0;
                if (wears[pin] + wornBy >= WEAR_OF_BROKEN) {
                    count++;
                }
            }
            return count;
        }

        int mostWornPin() {
            int found = -1;
            int most = -1;
            for (int pin = 0; pin < PINS; pin++) {
                if (!broken(pin) && wears[pin] > most) {
                    found = pin;
                    most = wears[pin];
                }
            }
            return found;
        }

        long digestOn(long before) {
            long d = before;
            for (int pin = 0; pin < PINS; pin++) {
                d = d * 31 + (Pins.holds(standing, pin) ? 1 : 0);
                d = d * 31 + wears[pin];
            }
            return d;
        }
    }

    /** The house balls, and for how many more throws each is away. */
    private static final class Rack {
        private static final int THROWS_AWAY = 2;

        private final int[] away = new int[BALLS];

        int throwsAway(int ball) {
            return away[ball];
        }

        void send(int ball) {
            for (int other = 0; other < BALLS; other++) {
                away[other] = Math.max(0, away[other] - 1);
            }
            away[ball] = THROWS_AWAY;
        }

        void returnAll() {
            for (int ball = 0; ball < BALLS; ball++) {
                away[ball] = 0;
            }
        }

        long digestOn(long before) {
            long d = before;
            for (int ball = 0; ball < BALLS; ball++) {
                d = d * 31 + away[ball];
            }
            return d;
        }
    }

    /** What one player has thrown in this game. */
    private static final class Sheet {
        private static final int BONUS_OF_STRIKE = 2;
        private static final int BONUS_OF_SPARE = 1;

        private final int[] pinsOfThrow = new int[FRAMES * THROWS_OF_FRAME];
        private final int[] firstThrow = new int[FRAMES];
        private final int[] throwsIn = new int[FRAMES];
        /** How many of the throws behind a frame count for it too. */
        private final int[] bonusThrows = new int[FRAMES];
        private int thrown;

        int thrown() {
            return thrown;
        }

        void clear() {
            thrown = 0;
            for (int frame = 0; frame < FRAMES; frame++) {
                firstThrow[frame] = 0;
                throwsIn[frame] = 0;
                bonusThrows[frame] = 0;
            }
        }

        void enter(int frame, int fallen, boolean cleared) {
            if (frame < 0 || frame >= FRAMES || thrown >= pinsOfThrow.length) {
                return;
            }
            if (throwsIn[frame] == 0) {
                firstThrow[frame] = thrown;
            }
            pinsOfThrow[thrown] = fallen;
            thrown++;
            throwsIn[frame]++;
            // A frame in which no pin could stand is cleared without pins: neither a strike nor a spare.
            if (cleared && fallen > 0) {
                bonusThrows[frame] = throwsIn[frame] == 1 ? BONUS_OF_STRIKE : BONUS_OF_SPARE;
            }
        }

        int points(int frame) {
            int end = Math.min(thrown, firstThrow[frame] + throwsIn[frame] + bonusThrows[frame]);
            int sum = 0;
            for (int i = firstThrow[frame]; i < end; i++) {
                sum += pinsOfThrow[i];
            }
            return sum;
        }

        int score() {
            int sum = 0;
            for (int frame = 0; frame < FRAMES; frame++) {
                sum += points(frame);
            }
            return sum;
        }

        int strikes() {
            return framesWithBonus(BONUS_OF_STRIKE);
        }

        int spares() {
            return framesWithBonus(BONUS_OF_SPARE);
        }

        long digestOn(long before) {
            long d = before * 31 + thrown;
            d = d * 31 + score();
            d = d * 31 + strikes();
            d = d * 31 + spares();
            for (int frame = 0; frame < FRAMES; frame++) {
                d = d * 31 + points(frame);
            }
            return d;
        }

        private int framesWithBonus(int bonus) {
            int count = 0;
            for (int frame = 0; frame < FRAMES; frame++) {
                if (bonusThrows[frame] == bonus) {
                    count++;
                }
            }
            return count;
        }
    }
}
