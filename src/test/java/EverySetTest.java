/** Each of the 512 sets of pins that can stand: what every throw fells, and all that would be, against the model. */
public final class EverySetTest extends Suite {
    private static final int SETS = 1 << 9;

    private EverySetTest() {
    }

    public static void main(String[] args) {
        new EverySetTest().runAll();
    }

    private static String pinsOf(int set) {
        StringBuilder pins = new StringBuilder();
        for (int pin = 0; pin < 9; pin++) {
            if ((set >> pin & 1) != 0) {
                pins.append(pin);
            }
        }
        return pins.toString();
    }

    void whatWouldBeIsToldOfEverySet() {
        for (int set = 0; set < SETS; set++) {
            String pins = pinsOf(set);
            SkittleStrings x = alleyOf(1, pins);
            Model model = Model.ofPins(pins);
            checks.same("bestThrow() of " + pins, model.bestThrow(), x.bestThrow());
            checks.same("throwsToClear() of " + pins, model.throwsToClear(), x.throwsToClear());
            for (int i = 0; i < 25; i++) {
                String of = "(" + i / 5 + ", " + i % 5 + ") of " + pins;
                checks.same("wouldFall" + of, model.wouldFall(i / 5, i % 5), x.wouldFall(i / 5, i % 5));
                checks.same("lastToFall" + of, model.lastToFall(i / 5, i % 5), x.lastToFall(i / 5, i % 5));
            }
            checks.same("digest() of " + pins, model.digest(), x.digest());
        }
    }

    void everyThrowFellsThePinsThatAreDueInEverySet() {
        for (int set = 0; set < SETS; set++) {
            String pins = pinsOf(set);
            for (int i = 0; i < 25; i++) {
                SkittleStrings x = alleyOf(1, pins);
                Model model = Model.ofPins(pins);
                String what = "throwBall(" + i / 5 + ", " + i % 5 + ") of " + pins;
                checks.same(what, model.throwBall(i / 5, i % 5), x.throwBall(i / 5, i % 5));
                checks.same("digest() behind " + what, model.digest(), x.digest());
            }
        }
    }

    /** So the answer -1 can't come, and no test can show it. */
    void threeThrowsClearEverySet() {
        for (int set = 0; set < SETS; set++) {
            int due = alleyOf(1, pinsOf(set)).throwsToClear();
            checks.same("throwsToClear() of " + pinsOf(set) + ", 0 to 3", true, due >= 0 && due <= 3);
        }
    }
}
