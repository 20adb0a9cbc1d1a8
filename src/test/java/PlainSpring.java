import java.util.ArrayList;
import java.util.HashMap;
import java.util.List;
import java.util.Map;
import java.util.regex.Matcher;
import java.util.regex.Pattern;

/**
 * The document once more, for ModelTest: every "what if" copies the whole spring and lets its days go,
 * so that nothing of how EvenSpring looks ahead is taken for granted.
 */
final class PlainSpring {
    private static final int[] ABOVE = {-1, 0, 0, 0, 2, 1};
    private static final List<String> NAMES = List.of("count", "old", "new", "cog", "leap", "monk");
    private static final int[] LEAST = {0, 0, 1, 0, 0};
    private static final int[] MOST = {5, 99, 60, 99, 9999};

    // How many days from 0 to d have the rest 2 by 7: counted one by one, but once, as far as any look ahead goes.
    private static final int[] LEFT_OUT = leftOut(99999 + 2000 + 1);

    private static int[] leftOut(int days) {
        int[] left = new int[days];
        for (int d = 1; d < days; d++) {
            left[d] = left[d - 1] + (d % 7 == 2 ? 1 : 0);
        }
        return left;
    }

    /** A finding on its way to the answer. */
    private static final class Finding extends RuntimeException {
        private static final long serialVersionUID = 1L;
        final int code;

        Finding(int code) {
            super(null, null, false, false);
            this.code = code;
        }
    }

    /** Section 1 of the document, without the tape. */
    private static final class World {
        int day;
        int power = 10;
        int truth;
        int good;
        int bad;
        List<int[]> calendars = new ArrayList<>();
        List<int[]> pilgrims = new ArrayList<>();

        World copy() {
            World w = new World();
            w.day = day;
            w.power = power;
            w.truth = truth;
            w.good = good;
            w.bad = bad;
            for (int[] c : calendars) {
                w.calendars.add(c.clone());
            }
            for (int[] p : pilgrims) {
                w.pilgrims.add(p.clone());
            }
            return w;
        }

        boolean holyBy(int number, int d) {
            return number >= 0 && number < calendars.size() && holy(calendars.get(number), d);
        }

        void bathe(int[] p) {
            p[0] = holyBy(truth, day) ? Math.max(0, p[0] - power) : Math.min(99, p[0] + power / 2);
            p[2] = Math.min(9999, p[2] + 1);
        }

        World go(int n) {
            for (int i = 0; i < n; i++) {
                for (int[] p : pilgrims) {
                    if (p[0] > 0 && (p[1] == -1 || holyBy(p[1], day))) {
                        bathe(p);
                    }
                }
                if (day % 7 == 2 && holyBy(truth, day)) {
                    good = Math.min(99, good + 1);
                } else if (day % 7 == 2) {
                    bad = Math.min(99, bad + 1);
                }
                day++;
            }
            return this;
        }

        World on(int n) {
            return copy().go(n);
        }

        int illOfAll() {
            return pilgrims.stream().mapToInt(p -> p[0]).sum();
        }

        int wellOnes() {
            return (int) pilgrims.stream().filter(p -> p[0] == 0).count();
        }

        /** In how many days a pilgrim is well first, or -1. */
        int wellIn(int p) {
            World w = copy();
            for (int i = 0; i <= 400; i++) {
                if (w.pilgrims.get(p)[0] == 0) {
                    return i;
                }
                w.go(1);
            }
            return -1;
        }
    }

    private World w = new World();
    private World kept;
    private String tape = "";
    private final long[][] sheets = new long[4][];
    private final int[] bits = new int[4];
    private final Map<Integer, Integer> findings = new HashMap<>();

    // ---- calendars by themselves

    private static int runs(int kind, int[] c, int d) {
        switch (kind) {
            case 0:
                return d + c[1];
            case 2:
                return runs(0, c, d) + (d >= c[4] ? c[3] : 0);
            case 3:
                return runs(0, c, d) + d / 7;
            case 4:
                return runs(2, c, d) + (runs(2, c, d) / c[2]) / 4;
            case 5:
                return runs(1, c, d) - LEFT_OUT[d];
            default:
                return runs(ABOVE[kind], c, d);
        }
    }

    private static int dateOf(int[] c, int d) {
        return runs(c[0], c, d) % c[2] + 1;
    }

    private static boolean holy(int[] c, int d) {
        boolean even = dateOf(c, d) % 2 == 0;
        int month = runs(c[0], c, d) / c[2];
        switch (c[0]) {
            case 3:
                return (dateOf(c, d) + month) % 2 == 0;
            case 4:
                return even || dateOf(c, d) == 1;
            case 5:
                return even && d % 7 != 2;
            default:
                return even;
        }
    }

    private int agreed(int[] a, int[] b, int n) {
        int all = 0;
        for (int d = w.day; d < w.day + n; d++) {
            all += holy(a, d) == holy(b, d) ? 1 : 0;
        }
        return all;
    }

    // ---- findings

    private static void ask(boolean is, int finding) {
        if (!is) {
            throw new Finding(finding);
        }
    }

    private static boolean in(long v, long least, long most) {
        return v >= least && v <= most;
    }

    private boolean isCalendar(int c) {
        return in(c, 0, w.calendars.size() - 1);
    }

    private boolean isPilgrim(int p) {
        return in(p, 0, w.pilgrims.size() - 1);
    }

    private void beyond(boolean is) {
        ask(is, Checks.BEYOND);
    }

    /** What a call answers: its number is its place in the document's face (the constructor is 0). */
    long answer(int call, long... a) {
        int[] i = new int[5];
        for (int k = 0; k < a.length; k++) {
            i[k] = (int) a[k];
        }
        try {
            if (call < 13) {
                return calendarsAndPilgrims(call, i);
            }
            if (call < 22) {
                return daysAndDates(call, i);
            }
            if (call < 28) {
                return best(call, i);
            }
            if (call < 31) {
                return text(call, i);
            }
            return call < 37 ? sheetCall(call, i, a) : images(call, i);
        } catch (Finding f) {
            findings.merge(f.code, 1, Integer::sum);
            return f.code;
        }
    }

    private long calendarsAndPilgrims(int call, int[] a) {
        int was;
        switch (call) {
            case 1:
                beyond(in(a[0], 0, 5));
                ask(w.calendars.size() < 6, Checks.FULL);
                w.calendars.add(new int[] {a[0], 0, 30, 11, 50});
                return w.calendars.size() - 1;
            case 2:
                beyond(isCalendar(a[0]) && in(a[1], 0, 4));
                return w.calendars.get(a[0])[a[1]];
            case 3:
                beyond(isCalendar(a[0]) && in(a[1], 1, 4) && in(a[2], LEAST[a[1]], MOST[a[1]]));
                was = w.calendars.get(a[0])[a[1]];
                w.calendars.get(a[0])[a[1]] = a[2];
                return was;
            case 4:
                beyond(isCalendar(a[0]) && in(a[1], 0, 5));
                was = w.calendars.get(a[0])[0];
                w.calendars.get(a[0])[0] = a[1];
                return was;
            case 5:
                beyond(isCalendar(a[0]) && in(a[1], 0, 5));
                int k = w.calendars.get(a[0])[0];
                while (k != -1 && k != a[1]) {
                    k = ABOVE[k];
                }
                ask(k == a[1], Checks.KIND);
                return w.calendars.get(a[0])[1];
            case 6:
                beyond(isCalendar(a[0]) && in(a[1], 0, 99999) && in(a[2], 0, 3));
                int[] c = w.calendars.get(a[0]);
                int[] all = {dateOf(c, a[1]), runs(c[0], c, a[1]) / c[2], holy(c, a[1]) ? 1 : 0, runs(c[0], c, a[1])};
                return all[a[2]];
            case 7:
                beyond(a[0] == 0 && in(a[1], 1, 50) || a[0] == 1 && in(a[1], 0, 5));
                was = a[0] == 0 ? w.power : w.truth;
                w.power = a[0] == 0 ? a[1] : w.power;
                w.truth = a[0] == 1 ? a[1] : w.truth;
                return was;
            default:
                return pilgrims(call, a);
        }
    }

    private long pilgrims(int call, int[] a) {
        int was;
        int[] p = isPilgrim(a[0]) ? w.pilgrims.get(a[0]) : null;
        switch (call) {
            case 8:
                beyond(in(a[0], 0, 99) && (a[1] == -1 || isCalendar(a[1])));
                ask(w.pilgrims.size() < 8, Checks.FULL);
                w.pilgrims.add(new int[] {a[0], a[1], 0});
                return w.pilgrims.size() - 1;
            case 9:
                beyond(p != null && in(a[1], 0, 2));
                return p[a[1]];
            case 10:
                beyond(p != null && (a[1] == 0 && in(a[2], 0, 99) || a[1] == 1 && (a[2] == -1 || isCalendar(a[2]))));
                was = p[a[1]];
                p[a[1]] = a[2];
                return was;
            case 11:
                beyond(p != null && in(a[1], 0, 1));
                ask((a[1] == 1 ? w.good : w.bad) > 0, Checks.STATE);
                if (a[1] == 1) {
                    w.good--;
                    p[0] = Math.max(0, p[0] - w.power);
                } else {
                    w.bad--;
                    p[0] = Math.min(99, p[0] + w.power / 2);
                }
                return p[0];
            default:
                beyond(p != null);
                w.bathe(p);
                return p[0];
        }
    }

    private long daysAndDates(int call, int[] a) {
        switch (call) {
            case 13:
                beyond(in(a[0], 1, 400));
                ask(w.day + a[0] <= 99999, Checks.STATE);
                w.go(a[0]);
                return w.wellOnes();
            case 14:
                beyond(in(a[0], 0, 6));
                int well = 0;
                for (int p = 0; p < w.pilgrims.size(); p++) {
                    well += w.pilgrims.get(p)[0] == 0 ? 1 << p : 0;
                }
                return new int[] {w.day, w.power, w.truth, w.good, w.bad, w.illOfAll(), well}[a[0]];
            case 15:
                beyond(isPilgrim(a[0]) && in(a[1], 0, 400) && in(a[2], 0, 1));
                return w.on(a[1]).pilgrims.get(a[0])[a[2] * 2];
            case 16:
                beyond(isPilgrim(a[0]));
                ask(w.wellIn(a[0]) >= 0, Checks.NONE);
                return w.wellIn(a[0]);
            case 17:
                beyond(isCalendar(a[0]));
                for (int d = w.day; d <= w.day + 400; d++) {
                    if (w.holyBy(a[0], d)) {
                        return d;
                    }
                }
                throw new Finding(Checks.NONE);
            case 18:
                beyond(isCalendar(a[0]) && isCalendar(a[1]) && a[0] != a[1] && in(a[2], 1, 400));
                return agreed(w.calendars.get(a[0]), w.calendars.get(a[1]), a[2]);
            case 19:
                beyond(isCalendar(a[0]) && isCalendar(a[1]) && a[0] != a[1] && in(a[2], 1, 400));
                return longestRow(a[0], a[1], a[2]);
            case 20:
                beyond(a[0] > 0 && a[0] < 1 << w.calendars.size());
                return meeting(a[0]);
            default:
                beyond(isCalendar(a[0]) && isCalendar(a[2]) && a[0] != a[2] && in(a[1], 1, 60) && in(a[3], 1, 60));
                for (int d = w.day; d <= w.day + 2000; d++) {
                    if (dateOf(w.calendars.get(a[0]), d) == a[1] && dateOf(w.calendars.get(a[2]), d) == a[3]) {
                        return d;
                    }
                }
                throw new Finding(Checks.NONE);
        }
    }

    private int longestRow(int one, int other, int n) {
        StringBuilder signs = new StringBuilder();
        for (int d = w.day; d < w.day + n; d++) {
            signs.append(w.holyBy(one, d) == w.holyBy(other, d) ? 'x' : ' ');
        }
        int longest = 0;
        for (String part : signs.toString().split(" ")) {
            longest = Math.max(longest, part.length());
        }
        return longest;
    }

    private int meeting(int set) {
        for (int d = w.day; d <= w.day + 2000; d++) {
            boolean just = true;
            for (int c = 0; c < w.calendars.size(); c++) {
                just &= w.holyBy(c, d) == ((set & 1 << c) != 0);
            }
            if (just) {
                return d;
            }
        }
        throw new Finding(Checks.NONE);
    }

    private long best(int call, int[] a) {
        switch (call) {
            case 22:
                beyond(isPilgrim(a[0]));
                return bestTrust(a[0]);
            case 23:
                beyond(in(a[0], 1, 100));
                ask(!w.calendars.isEmpty(), Checks.NONE);
                return bestTruth(a[0]);
            case 24:
                beyond(isPilgrim(a[0]));
                ask(w.pilgrims.get(a[0])[0] != 0, Checks.STATE);
                int ill = w.pilgrims.get(a[0])[0];
                for (int d = w.day; d <= w.day + 2000; d++) {
                    ill -= w.holyBy(w.truth, d) ? w.power : 0;
                    if (ill <= 0) {
                        return d;
                    }
                }
                throw new Finding(Checks.NONE);
            case 25:
                beyond(isCalendar(a[0]) && in(a[1], 1, 400));
                ask(isCalendar(w.truth), Checks.STATE);
                return bestOf(a[0], 0, a[1]);
            case 26:
                beyond(isCalendar(a[0]) && in(a[1], 1, 100));
                ask(isCalendar(w.truth), Checks.STATE);
                return bestOf(a[0], 1, a[1]);
            default:
                beyond(in(a[0], 1, 100));
                int best = 0;
                int most = -1;
                for (int p = 50; p >= 1; p--) {
                    World other = w.copy();
                    other.power = p;
                    int well = other.go(a[0]).wellOnes();
                    if (well >= most) {
                        most = well;
                        best = p;
                    }
                }
                return best;
        }
    }

    private int bestTrust(int p) {
        int best = -2;
        int soonest = 401;
        for (int c = -1; c < w.calendars.size(); c++) {
            World other = w.copy();
            other.pilgrims.get(p)[1] = c;
            int in = other.wellIn(p);
            if (in >= 0 && (in < soonest || in == soonest && best == -1)) {
                soonest = in;
                best = c;
            }
        }
        ask(best != -2, Checks.NONE);
        return best;
    }

    private int bestTruth(int n) {
        int best = 0;
        int least = Integer.MAX_VALUE;
        for (int c = w.calendars.size() - 1; c >= 0; c--) {
            World other = w.copy();
            other.truth = c;
            int ill = other.go(n).illOfAll();
            if (ill <= least) {
                least = ill;
                best = c;
            }
        }
        return best;
    }

    private int bestOf(int calendar, int what, int n) {
        int best = 0;
        int most = -1;
        for (int v = MOST[what]; v >= LEAST[what]; v--) {
            // In a copy of the whole, so that truth changes too if it is the one that is asked of.
            World other = w.copy();
            other.calendars.get(calendar)[what] = v;
            int agreed = agreed(other.calendars.get(calendar), other.calendars.get(w.truth), n);
            if (agreed >= most) {
                most = agreed;
                best = v;
            }
        }
        return best;
    }

    private long text(int call, int[] a) {
        int had = tape.length();
        switch (call) {
            case 28:
                beyond(in(a[1], 1, 4));
                ask(had + a[1] <= 120, Checks.FULL);
                for (int i = a[1] - 1; i >= 0; i--) {
                    tape += (char) (a[0] >>> 8 * i & 255);
                }
                return tape.length();
            case 29:
                tape = "";
                return had;
            default:
                World before = w;
                w = w.copy();
                int items = new Text().items();
                w = items < 0 ? before : w;
                tape = "";
                return items;
        }
    }

    /** The text, by a list of tokens made ahead of all reading; a wrong byte is a token of its own. */
    private final class Text {
        private final List<String> tokens = new ArrayList<>();
        private final List<Integer> places = new ArrayList<>();
        private int at;

        Text() {
            Matcher m = Pattern.compile("[a-z]+|[0-9]+|[^ ]", Pattern.DOTALL).matcher(tape);
            while (m.find()) {
                tokens.add(m.group());
                places.add(m.start());
            }
            tokens.add("");
            places.add(tape.length());
        }

        int items() {
            try {
                int items = 1;
                item();
                while (!tokens.get(at).isEmpty()) {
                    need(tokens.get(at).equals(";"));
                    at++;
                    item();
                    items++;
                }
                return items;
            } catch (Finding fault) {
                return -1 - places.get(at);
            }
        }

        private void need(boolean can) {
            ask(can, 0);
        }

        private int number(int least, int most) {
            String t = tokens.get(at);
            need(t.matches("[0-9]+"));
            need(new java.math.BigInteger(t).bitLength() < 31);
            need(in(Integer.parseInt(t), least, most));
            at++;
            return Integer.parseInt(t);
        }

        private boolean word(String name) {
            boolean is = tokens.get(at).equals(name);
            at += is ? 1 : 0;
            return is;
        }

        private void item() {
            String t = tokens.get(at);
            need(!t.equals("pilgrim") || w.pilgrims.size() < 8);
            need(!NAMES.contains(t) || w.calendars.size() < 6);
            if (word("truth")) {
                w.truth = number(0, 5);
            } else if (word("power")) {
                w.power = number(1, 50);
            } else if (word("pilgrim")) {
                int ill = number(0, 99);
                w.pilgrims.add(new int[] {ill, word("trusts") ? number(0, w.calendars.size() - 1) : -1, 0});
            } else {
                need(NAMES.contains(t));
                at++;
                int[] c = {NAMES.indexOf(t), 0, 30, 11, 50};
                String[] fields = {"", "begin", "length", "left", "reform"};
                for (int what = 1; what < 5; what++) {
                    c[what] = word(fields[what]) ? number(LEAST[what], MOST[what]) : c[what];
                }
                w.calendars.add(c);
            }
        }
    }

    private long cut(int s, long v) {
        return bits[s] == 8 ? (byte) v : bits[s] == 16 ? (short) v : v;
    }

    private long sheetCall(int call, int[] a, long[] whole) {
        int s = a[0];
        beyond(in(s, 0, 3) && (call != 33 || in(a[2], 0, 3)));
        if (call == 31) {
            beyond(a[1] == 0 || a[1] == 8 || a[1] == 16 || a[1] == 64);
            ask(a[2] >= 0, Checks.SIZE);
            beyond(a[2] <= 40);
            bits[s] = a[1];
            sheets[s] = a[1] == 0 ? null : new long[a[2]];
            return a[1] == 0 ? 0 : a[2];
        }
        ask(sheets[s] != null && (call != 33 || sheets[a[2]] != null), Checks.MISSING);
        switch (call) {
            case 32:
                beyond(in(a[1], 0, sheets[s].length - 1));
                long was = sheets[s][a[1]];
                sheets[s][a[1]] = cut(s, whole[2]);
                return was;
            case 33:
                ask(bits[s] == bits[a[2]], Checks.KIND);
                beyond(a[1] >= 0 && a[3] >= 0 && a[4] >= 0);
                beyond((long) a[1] + a[4] <= sheets[s].length && (long) a[3] + a[4] <= sheets[a[2]].length);
                long[] source = sheets[s].clone();
                for (int i = 0; i < a[4]; i++) {
                    sheets[a[2]][a[3] + i] = source[a[1] + i];
                }
                return a[4];
            case 34:
                int came = 0;
                for (int i = 0; i < sheets[s].length; i++) {
                    if (isPilgrim(i) && in(sheets[s][i], 0, 99)) {
                        w.pilgrims.get(i)[0] = (int) sheets[s][i];
                        came++;
                    }
                }
                return came;
            case 35:
                beyond(isPilgrim(a[1]));
                for (int i = 0; i < sheets[s].length; i++) {
                    sheets[s][i] = w.on(i).pilgrims.get(a[1])[0];
                }
                return sheets[s].length;
            default:
                beyond(isPilgrim(a[1]));
                return pairs(sheets[s], a[1]);
        }
    }

    private int pairs(long[] told, int p) {
        int pairs = 0;
        for (int t = 0; t < w.calendars.size(); t++) {
            for (int c = -1; c < w.calendars.size(); c++) {
                World other = w.copy();
                other.truth = t;
                other.pilgrims.get(p)[1] = c;
                boolean just = true;
                for (long number : told) {
                    just &= number == other.pilgrims.get(p)[0];
                    other.go(1);
                }
                pairs += just ? 1 : 0;
            }
        }
        return pairs;
    }

    private long images(int call, int[] a) {
        switch (call) {
            case 37:
                kept = w.copy();
                return 1;
            case 38:
                ask(kept != null, Checks.NONE);
                w = kept.copy();
                return w.calendars.size();
            case 39:
                int was = kept == null ? 0 : 1;
                kept = null;
                return was;
            case 40:
                beyond(in(a[0], 0, 3));
                int bathed = w.pilgrims.stream().mapToInt(p -> p[2]).sum();
                return new int[] {w.calendars.size(), tape.length(), w.pilgrims.size(), bathed}[a[0]];
            default:
                beyond(in(a[0], -1, 6));
                if (a[0] == -1) {
                    return findings.values().stream().mapToInt(f -> f).sum();
                }
                return findings.getOrDefault(Checks.BEYOND - a[0], 0);
        }
    }
}
