import java.util.ArrayList;
import java.util.HashMap;
import java.util.List;
import java.util.Map;

/**
 * The document once more, written otherwise than the class: pins are objects that find one another by row and
 * lane, the score is told from the history of throws, and balls are away by the count of throws.
 */
final class Model {
    private static final Map<String, Integer> CLEARED_WITH = new HashMap<>();

    private static final class Pin {
        final int number;
        final int row;
        final int lane;
        int wear;
        boolean stands = true;

        Pin(int number, int row, int lane) {
            this.number = number;
            this.row = row;
            this.lane = lane;
        }

        Pin copy() {
            Pin copy = new Pin(number, row, lane);
            copy.wear = wear;
            copy.stands = stands;
            return copy;
        }
    }

    /** The throws of a player in a frame. */
    private static final class Frame {
        final List<Integer> fallen = new ArrayList<>();
        boolean cleared;

        int pins() {
            return fallen.stream().mapToInt(Integer::intValue).sum();
        }

        boolean strike() {
            return cleared && fallen.size() == 1 && pins() > 0;
        }

        boolean spare() {
            return cleared && fallen.size() > 1 && pins() > 0;
        }
    }

    private final List<Pin> pins = new ArrayList<>();
    private final int[] thrownAs = {-9, -9, -9, -9, -9};
    private int throwsOfGame;
    private int spareStrings = 3;
    private int players;
    /** The frames of the game in the order in which they are thrown; the last one is the one in play. */
    private List<Frame> frames = new ArrayList<>();

    Model() {
        int[][] lanesOfRows = {{2}, {1, 3}, {0, 2, 4}, {1, 3}, {2}};
        for (int row = 0; row < 5; row++) {
            for (int lane : lanesOfRows[row]) {
                pins.add(new Pin(pins.size(), row, lane));
            }
        }
        frames.add(new Frame());
    }

    /** One player's new game in which these pins stand, and the strings of all others are broken. */
    static Model ofPins(String standing) {
        Model model = new Model();
        model.addPlayer();
        for (Pin pin : model.pins) {
            pin.stands = standing.contains("" + pin.number);
            pin.wear = pin.stands ? 0 : 12;
        }
        return model;
    }

    // ---- the game

    int addPlayer() {
        if (players == 4 || throwsOfGame > 0) {
            throw new IllegalStateException();
        }
        return players++;
    }

    int throwBall(int ball, int lane) {
        check(ball, 5);
        check(lane, 5);
        if (players == 0 || isOver() || awayFor(ball) > 0) {
            throw new IllegalStateException();
        }
        int fallen = roll(pins, ball, lane);
        throwsOfGame++;
        thrownAs[ball] = throwsOfGame;
        Frame frame = frames.get(frames.size() - 1);
        frame.fallen.add(fallen);
        frame.cleared = standing() == 0;
        if (frame.cleared || frame.fallen.size() == 3) {
            frames.add(new Frame());
            if (!isOver()) {
                standAll();
            }
        }
        return fallen;
    }

    int replaceString(int pin) {
        check(pin, 9);
        if (spareStrings == 0) {
            throw new IllegalStateException();
        }
        pins.get(pin).wear = 0;
        return --spareStrings;
    }

    int buyStrings(int strings) {
        if (strings < 1 || strings > 20) {
            throw new IllegalArgumentException();
        }
        spareStrings += strings;
        return spareStrings;
    }

    int newGame() {
        int leader = leader();
        frames = new ArrayList<>();
        frames.add(new Frame());
        throwsOfGame = 0;
        java.util.Arrays.fill(thrownAs, -9);
        standAll();
        return leader;
    }

    // ---- the alley

    boolean isStanding(int pin) {
        check(pin, 9);
        return pins.get(pin).stands;
    }

    int standing() {
        return (int) pins.stream().filter(pin -> pin.stands).count();
    }

    int wearOf(int pin) {
        check(pin, 9);
        return pins.get(pin).wear;
    }

    boolean isBroken(int pin) {
        return wearOf(pin) == 12;
    }

    int brokenStrings() {
        return (int) pins.stream().filter(pin -> pin.wear == 12).count();
    }

    int mostWorn() {
        for (int wear = 11; wear >= 0; wear--) {
            for (Pin pin : pins) {
                if (pin.wear == wear) {
                    return pin.number;
                }
            }
        }
        return -1;
    }

    int spareStrings() {
        return spareStrings;
    }

    int awayFor(int ball) {
        check(ball, 5);
        return Math.max(0, thrownAs[ball] + 2 - throwsOfGame);
    }

    // ---- the score

    int players() {
        return players;
    }

    int playerInTurn() {
        return players == 0 || isOver() ? -1 : (frames.size() - 1) % players;
    }

    int frame() {
        return players == 0 ? 0 : (frames.size() - 1) / players;
    }

    int throwsInFrame() {
        return frames.get(frames.size() - 1).fallen.size();
    }

    boolean isOver() {
        return players > 0 && frames.size() > 10 * players;
    }

    int throwsOf(int player) {
        check(player, players);
        int count = 0;
        for (int i = player; i < frames.size(); i += players) {
            count += frames.get(i).fallen.size();
        }
        return count;
    }

    int scoreOf(int player) {
        check(player, players);
        int sum = 0;
        for (int frame = 0; frame < 10; frame++) {
            sum += pointsOf(player, frame);
        }
        return sum;
    }

    int pointsOf(int player, int frame) {
        check(player, players);
        check(frame, 10);
        int at = frame * players + player;
        if (at >= frames.size()) {
            return 0;
        }
        Frame told = frames.get(at);
        int bonus = told.strike() ? 2 : told.spare() ? 1 : 0;
        int sum = told.pins();
        for (int later = at + players; later < frames.size(); later += players) {
            for (int fallen : frames.get(later).fallen) {
                sum += bonus > 0 ? fallen : 0;
                bonus--;
            }
        }
        return sum;
    }

    int strikesOf(int player) {
        check(player, players);
        int count = 0;
        for (int i = player; i < frames.size(); i += players) {
            count += frames.get(i).strike() ? 1 : 0;
        }
        return count;
    }

    int sparesOf(int player) {
        check(player, players);
        int count = 0;
        for (int i = player; i < frames.size(); i += players) {
            count += frames.get(i).spare() ? 1 : 0;
        }
        return count;
    }

    int leader() {
        int leader = -1;
        for (int player = players - 1; player >= 0; player--) {
            if (leader < 0 || scoreOf(player) >= scoreOf(leader)) {
                leader = player;
            }
        }
        return leader;
    }

    // ---- what would be

    int wouldFall(int ball, int lane) {
        check(ball, 5);
        check(lane, 5);
        return roll(copyOfPins(), ball, lane);
    }

    int lastToFall(int ball, int lane) {
        check(ball, 5);
        check(lane, 5);
        List<Pin> copy = copyOfPins();
        roll(copy, ball, lane);
        int last = -1;
        for (Pin pin : pins) {
            last = pin.stands && !copy.get(pin.number).stands ? pin.number : last;
        }
        return last;
    }

    int bestThrow() {
        int best = -1;
        for (int ball = 4; ball >= 0; ball--) {
            for (int lane = 4; lane >= 0; lane--) {
                if (awayFor(ball) == 0 && (best < 0 || wouldFall(ball, lane) >= wouldFall(best / 10, best % 10))) {
                    best = 10 * ball + lane;
                }
            }
        }
        return best;
    }

    int throwsToClear() {
        String key = "";
        for (Pin pin : pins) {
            key += pin.stands ? "1" : "0";
        }
        return CLEARED_WITH.computeIfAbsent(key, unknown -> {
            int fewest = fewestThrows(copyOfPins(), new boolean[5], 0);
            return fewest > 3 ? -1 : fewest;
        });
    }

    int wouldBreak() {
        int count = brokenStrings();
        for (Pin pin : pins) {
            count += pin.stands && pin.wear == 11 ? 1 : 0;
        }
        return count;
    }

    double meanScore() {
        double sum = 0;
        for (int player = 0; player < players; player++) {
            sum += scoreOf(player);
        }
        return players == 0 ? 0 : sum / players;
    }

    long digest() {
        List<Integer> told = new ArrayList<>(List.of(players(), playerInTurn(), frame(), throwsInFrame(),
                spareStrings(), bestThrow(), throwsToClear()));
        for (int pin = 0; pin < 9; pin++) {
            told.add(isStanding(pin) ? 1 : 0);
            told.add(wearOf(pin));
        }
        for (int ball = 0; ball < 5; ball++) {
            told.add(awayFor(ball));
        }
        for (int player = 0; player < players; player++) {
            told.addAll(List.of(throwsOf(player), scoreOf(player), strikesOf(player), sparesOf(player)));
            for (int frame = 0; frame < 10; frame++) {
                told.add(pointsOf(player, frame));
            }
        }
        long d = 1999;
        for (int x : told) {
            d = d * 31 + x;
        }
        return d;
    }

    // ---- how pins fall

    private static void check(int number, int count) {
        if (number < 0 || number >= count) {
            throw new IndexOutOfBoundsException();
        }
    }

    private void standAll() {
        for (Pin pin : pins) {
            pin.stands = pin.wear < 12;
        }
    }

    private List<Pin> copyOfPins() {
        List<Pin> copy = new ArrayList<>();
        for (Pin pin : pins) {
            copy.add(pin.copy());
        }
        return copy;
    }

    private static Pin standingAt(List<Pin> all, int row, int lane) {
        for (Pin pin : all) {
            if (pin.row == row && pin.lane == lane && pin.stands) {
                return pin;
            }
        }
        return null;
    }

    private static int roll(List<Pin> all, int ball, int lane) {
        int fallen = 0;
        int force = ball + 2;
        for (int row = 0; row < 5; row++) {
            Pin pin = standingAt(all, row, lane);
            if (pin != null && force > 0) {
                fallen += hit(all, pin, force);
                force--;
            }
        }
        return fallen;
    }

    private static int hit(List<Pin> all, Pin pin, int force) {
        pin.stands = false;
        pin.wear++;
        int fallen = 1;
        for (int side = -1; side <= 1; side += 2) {
            Pin behind = standingAt(all, pin.row + 1, pin.lane + side);
            if (behind != null && force - 2 >= 1) {
                fallen += hit(all, behind, force - 2);
            }
        }
        return fallen;
    }

    /** Tries every order of balls along every lane, without any short cut. */
    private static int fewestThrows(List<Pin> all, boolean[] used, int thrown) {
        if (all.stream().noneMatch(pin -> pin.stands)) {
            return thrown;
        }
        int fewest = 4;
        for (int ball = 0; ball < 5 && thrown < 3; ball++) {
            for (int lane = 0; lane < 5 && !used[ball]; lane++) {
                List<Pin> copy = new ArrayList<>();
                all.forEach(pin -> copy.add(pin.copy()));
                roll(copy, ball, lane);
                used[ball] = true;
                fewest = Math.min(fewest, fewestThrows(copy, used, thrown + 1));
                used[ball] = false;
            }
        }
        return fewest;
    }
}
