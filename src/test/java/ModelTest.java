import java.util.Random;

/** All promises: seeded runs of calls, up to the last that an object is used for, each against the plain model. */
public final class ModelTest {
    private static final int RUNS = 600;
    private static final int CALLS = 512;
    // The calls of the longest text: wipe, 30 times feed, spring.
    private static final int CALLS_OF_TEXT = 32;
    // In every sixth run many days go first, up to the last day.
    private static final int FAR_RUN = 6;
    private static final int MOST_FAR = 250;
    // How often each call is made, by its place in the document's face; days and the text are wanted most.
    private static final int[] OFTEN = {0, 6, 3, 10, 5, 3, 8, 4, 6, 3, 6, 4, 3, 6, 8, 4, 4, 3, 3, 3, 3, 3,
        3, 2, 3, 2, 1, 1, 5, 1, 4, 6, 8, 4, 3, 3, 4, 2, 3, 1, 3, 3};
    private static final String[] WORDS = {"count", "old", "new", "cog", "leap", "monk", "begin", "length", "left",
        "reform", "pilgrim", "trusts", "truth", "power", ";", "0", "1", "5", "60", "99", "100", "9999", "10000",
        "x", "$", "counts", "P"};

    private final Random random;
    private final EvenSpring x = new EvenSpring();
    private final PlainSpring plain = new PlainSpring();

    private ModelTest(long seed) {
        random = new Random(seed);
    }

    public static void main(String[] args) {
        int all = 0;
        for (int often : OFTEN) {
            all += often;
        }
        for (int run = 0; run < RUNS; run++) {
            ModelTest test = new ModelTest(run);
            int left = CALLS;
            if (run % FAR_RUN == 0) {
                left -= test.goFar(run);
            }
            while (left > 0) {
                left -= test.step(run, all, left);
            }
        }
        Checks.end();
    }

    private int goFar(int run) {
        int calls = run % (2 * FAR_RUN) == 0 ? MOST_FAR : random.nextInt(MOST_FAR);
        for (int i = 1; i < calls; i++) {
            ask(run, 13, 400);
        }
        ask(run, 13, 399 - random.nextInt(3));
        return Math.max(1, calls);
    }

    private int step(int run, int all, int left) {
        int pick = random.nextInt(all);
        int call = 0;
        while (pick >= OFTEN[call]) {
            pick -= OFTEN[call];
            call++;
        }
        if (call == 30 && left >= CALLS_OF_TEXT && random.nextInt(3) > 0) {
            return tellText(run);
        }
        long[] a = new long[5];
        fill(call, a);
        ask(run, call, a);
        return 1;
    }

    private void ask(int run, int call, long... a) {
        StringBuilder told = new StringBuilder("run ").append(run).append(", call ").append(call).append(" of");
        for (long v : a) {
            told.append(' ').append(v);
        }
        Checks.due(told.toString(), call(call, a), plain.answer(call, a));
    }

    private int tellText(int run) {
        StringBuilder text = new StringBuilder();
        int items = 1 + random.nextInt(5);
        for (int i = 0; i < items; i++) {
            text.append(i == 0 ? "" : ";").append(item());
        }
        if (random.nextInt(3) == 0 && text.length() > 0) {
            int place = random.nextInt(text.length());
            text.insert(place, random.nextInt(2) == 0 ? " " : WORDS[random.nextInt(WORDS.length)]);
        }
        text.setLength(Math.min(120, text.length()));
        ask(run, 29);
        int calls = 2;
        for (int i = 0; i < text.length(); i += 4) {
            int n = Math.min(4, text.length() - i);
            int bytes = random.nextInt();
            for (int k = 0; k < n; k++) {
                bytes = bytes << 8 | text.charAt(i + k);
            }
            ask(run, 28, bytes, n);
            calls++;
        }
        ask(run, 30);
        return calls;
    }

    private String item() {
        switch (random.nextInt(8)) {
            case 0:
                return "truth " + random.nextInt(random.nextInt(4) == 0 ? 8 : 6);
            case 1:
                return "power " + (1 + random.nextInt(51));
            case 2:
            case 3:
                return "pilgrim " + random.nextInt(101) + (random.nextBoolean() ? " trusts " + random.nextInt(5) : "");
            case 4:
                return WORDS[random.nextInt(WORDS.length)] + " " + WORDS[random.nextInt(WORDS.length)];
            default:
                return WORDS[random.nextInt(6)] + (random.nextBoolean() ? " begin " + random.nextInt(101) : "")
                    + (random.nextBoolean() ? " length " + (random.nextInt(61) + 1) : "")
                    + (random.nextBoolean() ? " left" + random.nextInt(101) : "")
                    + (random.nextBoolean() ? " reform " + random.nextInt(1000) : "");
        }
    }

    /** One below what may be to one above it, the edges more often than the rest. */
    private int some(int least, int most) {
        switch (random.nextInt(12)) {
            case 0:
                return least - random.nextInt(2);
            case 1:
                return most + random.nextInt(2);
            default:
                return least + random.nextInt(most - least + 1);
        }
    }

    private int someNumber() {
        return random.nextInt(40) == 0 ? random.nextInt() : some(0, 5);
    }

    private int someSheet() {
        return random.nextInt(30) == 0 ? some(-1, 4) : random.nextInt(3);
    }

    private void fill(int call, long[] a) {
        int[] least = {0, 0, 1, 0, 0};
        int[] most = {5, 99, 60, 99, random.nextInt(4) == 0 ? 9999 : 700};
        a[0] = call == 20 ? some(1, 63) : someNumber();
        a[1] = someNumber();
        a[2] = someNumber();
        switch (call) {
            case 3:
                a[1] = some(1, 4);
                int what = (int) Math.max(0, Math.min(4, a[1]));
                a[2] = random.nextInt(3) == 0 ? some(least[what], Math.min(most[what], 4)) : some(least[what], most[what]);
                break;
            case 6:
                a[1] = random.nextInt(3) == 0 ? some(0, 99999) : some(0, 800);
                a[2] = some(0, 3);
                break;
            case 7:
                a[0] = some(0, 1);
                a[1] = a[0] == 1 ? some(0, 5) : some(1, 50);
                break;
            case 8:
                a[0] = some(0, 99);
                a[1] = some(-1, 4);
                break;
            case 10:
                a[1] = some(0, 1);
                a[2] = a[1] == 0 ? some(0, 99) : some(-1, 5);
                break;
            case 11:
            case 40:
                a[1] = some(0, 1);
                break;
            case 13:
                a[0] = random.nextInt(3) == 0 ? some(1, 400) : some(1, 9);
                break;
            case 14:
                a[0] = some(0, 6);
                break;
            case 15:
                a[1] = some(0, 400);
                a[2] = some(0, 1);
                break;
            case 18:
            case 19:
                a[2] = some(1, 400);
                break;
            case 21:
                a[1] = some(1, 60);
                a[2] = someNumber();
                a[3] = random.nextInt(3) == 0 ? a[1] : some(1, 60);
                break;
            case 23:
            case 27:
                a[0] = some(1, 100);
                break;
            case 25:
                a[1] = some(1, 400);
                break;
            case 26:
                a[1] = some(1, 100);
                break;
            case 28:
                a[0] = random.nextInt();
                a[1] = some(1, 4);
                break;
            case 41:
                a[0] = some(-1, 6);
                break;
            default:
                if (call >= 31 && call <= 36) {
                    fillForSheets(call, a);
                }
        }
    }

    private void fillForSheets(int call, long[] a) {
        int[] bits = {8, 16, 64, 8, 16, 64, 8, 8, 0, 32};
        a[0] = someSheet();
        switch (call) {
            case 31:
                a[1] = bits[random.nextInt(bits.length)];
                a[2] = random.nextInt(3) == 0 ? some(0, 40) : some(0, 4);
                break;
            case 32:
                a[1] = random.nextInt(3) == 0 ? some(0, 39) : some(0, 3);
                a[2] = random.nextInt(3) == 0 ? random.nextLong() : some(0, 99);
                break;
            case 33:
                a[1] = some(0, 3);
                a[2] = someSheet();
                a[3] = some(0, 3);
                a[4] = random.nextInt(20) == 0 ? random.nextInt() : some(0, 4);
                break;
            default:
                break;
        }
    }

    private long call(int call, long[] whole) {
        int[] a = new int[5];
        for (int i = 0; i < whole.length; i++) {
            a[i] = (int) whole[i];
        }
        switch (call) {
            case 1: return x.calendar(a[0]);
            case 2: return x.of(a[0], a[1]);
            case 3: return x.set(a[0], a[1], a[2]);
            case 4: return x.turn(a[0], a[1]);
            case 5: return x.as(a[0], a[1]);
            case 6: return x.date(a[0], a[1], a[2]);
            case 7: return x.law(a[0], a[1]);
            case 8: return x.pilgrim(a[0], a[1]);
            case 9: return x.about(a[0], a[1]);
            case 10: return x.mind(a[0], a[1], a[2]);
            case 11: return x.drink(a[0], a[1]);
            case 12: return x.bathe(a[0]);
            case 13: return x.days(a[0]);
            case 14: return x.now(a[0]);
            case 15: return x.on(a[0], a[1], a[2]);
            case 16: return x.well(a[0]);
            case 17: return x.next(a[0]);
            case 18: return x.agree(a[0], a[1], a[2]);
            case 19: return x.row(a[0], a[1], a[2]);
            case 20: return x.meet(a[0]);
            case 21: return x.both(a[0], a[1], a[2], a[3]);
            default: return laterCall(call, a, whole);
        }
    }

    private long laterCall(int call, int[] a, long[] whole) {
        switch (call) {
            case 22: return x.trust(a[0]);
            case 23: return x.truth(a[0]);
            case 24: return x.cure(a[0]);
            case 25: return x.kind(a[0], a[1]);
            case 26: return x.begin(a[0], a[1]);
            case 27: return x.power(a[0]);
            case 28: return x.feed(a[0], a[1]);
            case 29: return x.wipe();
            case 30: return x.spring();
            case 31: return x.sheet(a[0], a[1], a[2]);
            case 32: return x.write(a[0], a[1], whole[2]);
            case 33: return x.copy(a[0], a[1], a[2], a[3], a[4]);
            case 34: return x.lays(a[0]);
            case 35: return x.book(a[0], a[1]);
            case 36: return x.read(a[0], a[1]);
            case 37: return x.image();
            case 38: return x.undo();
            case 39: return x.tear();
            case 40: return x.count(a[0]);
            default: return x.status(a[0]);
        }
    }
}
