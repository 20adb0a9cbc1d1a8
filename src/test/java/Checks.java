/** What every test here uses: it prints each answer that is not as due, and ends with 1 if there was one. */
final class Checks {
    static final int BEYOND = -1000000001;
    static final int FULL = -1000000002;
    static final int KIND = -1000000003;
    static final int NONE = -1000000004;
    static final int STATE = -1000000005;
    static final int MISSING = -1000000006;
    static final int SIZE = -1000000007;

    private static int asked = 0;
    private static int wrong = 0;

    private Checks() {
    }

    static void due(String call, long got, long want) {
        asked++;
        if (got != want) {
            wrong++;
            if (wrong <= 50) {
                System.out.println(call + " answered " + got + ", due is " + want);
            }
        }
    }

    static void holds(String what, boolean is) {
        due(what, is ? 1 : 0, 1);
    }

    /** Every answer is the same finding. */
    static void allFind(String what, int finding, long... answers) {
        for (int i = 0; i < answers.length; i++) {
            due(what + " [" + i + "]", answers[i], finding);
        }
    }

    static void feed(EvenSpring x, String text) {
        for (int i = 0; i < text.length(); i++) {
            x.feed(text.charAt(i), 1);
        }
    }

    static int spring(EvenSpring x, String text) {
        x.wipe();
        feed(x, text);
        return x.spring();
    }

    /** A spring with one calendar of each kind, numbered as the kinds are. */
    static EvenSpring ofAllKinds() {
        EvenSpring x = new EvenSpring();
        for (int k = 0; k < 6; k++) {
            x.calendar(k);
        }
        return x;
    }

    static void end() {
        System.out.println(asked + " answers asked, " + wrong + " not as due");
        if (asked == 0 || wrong != 0) {
            System.exit(1);
        }
    }
}
