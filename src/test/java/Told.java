import java.lang.reflect.Method;
import java.lang.reflect.Modifier;
import java.util.HashMap;
import java.util.Map;
import java.util.Set;
import java.util.TreeSet;

/**
 * One object of EvenSpring, asked in words, so that a table of edges reads like the document: "set 0 1 99" is
 * x.set(0, 1, 99). Acts stand apart by " | "; "25 days 400" asks 25 times; "tell old; cog" feeds that text;
 * MIN and MAX are the least and the greatest number that an argument can be.
 */
final class Told {
    private static final int MOST_CALLS = 512;
    private static final Map<String, Method> ACTS = acts();
    private static final Map<String, Integer> FINDINGS = Map.of("BEYOND", Checks.BEYOND, "FULL", Checks.FULL,
        "KIND", Checks.KIND, "NONE", Checks.NONE, "STATE", Checks.STATE, "MISSING", Checks.MISSING, "SIZE", Checks.SIZE);
    // These only answer: no promise lets them change anything.
    private static final Set<String> ONLY_ANSWER = Set.of("of", "as", "date", "about", "now", "on", "well", "next",
        "agree", "row", "meet", "both", "trust", "truth", "cure", "kind", "begin", "power", "read", "count", "status");
    private static final Map<String, String> LOOKS = new HashMap<>();

    private final EvenSpring x = new EvenSpring();
    private int calls = 0;

    Told(String acts) {
        if (!acts.isBlank()) {
            for (String act : acts.split(" \\| ")) {
                act(act);
            }
        }
    }

    private static Map<String, Method> acts() {
        Map<String, Method> acts = new HashMap<>();
        for (Method m : EvenSpring.class.getDeclaredMethods()) {
            if (Modifier.isPublic(m.getModifiers())) {
                acts.put(m.getName(), m);
            }
        }
        return acts;
    }

    /** One act in words; unlike ask it may be told to be done more than once, or be a text. */
    void act(String act) {
        if (act.startsWith("tell ")) {
            feed(act.substring(5));
            return;
        }
        int blank = act.indexOf(' ');
        boolean often = Character.isDigit(act.charAt(0));
        int times = often ? Integer.parseInt(act.substring(0, blank)) : 1;
        for (int i = 0; i < times; i++) {
            ask(often ? act.substring(blank + 1) : act);
        }
    }

    private void feed(String text) {
        if (text.length() > 120) {
            throw new IllegalArgumentException("no tape has room for: " + text);
        }
        for (int i = 0; i < text.length(); i += 4) {
            int n = Math.min(4, text.length() - i);
            int bytes = 0;
            for (int k = 0; k < n; k++) {
                bytes = bytes << 8 | text.charAt(i + k);
            }
            ask("feed " + bytes + " " + n);
        }
    }

    /** How many calls the object has had. */
    int calls() {
        return calls;
    }

    long ask(String act) {
        String[] words = act.trim().split(" +");
        Method m = ACTS.get(words[0]);
        if (m == null || m.getParameterCount() != words.length - 1) {
            throw new IllegalArgumentException("no such act: " + act);
        }
        calls++;
        if (calls > MOST_CALLS) {
            throw new IllegalStateException("more than 512 calls: " + act);
        }
        Object[] arguments = new Object[words.length - 1];
        for (int i = 0; i < arguments.length; i++) {
            arguments[i] = argument(words[i + 1], m.getParameterTypes()[i] == long.class);
        }
        try {
            return ((Number) m.invoke(x, arguments)).longValue();
        } catch (ReflectiveOperationException e) {
            throw new IllegalStateException(act, e);
        }
    }

    private static Object argument(String word, boolean isLong) {
        if (isLong) {
            return word.equals("MIN") ? Long.MIN_VALUE : word.equals("MAX") ? Long.MAX_VALUE : Long.parseLong(word);
        }
        return word.equals("MIN") ? Integer.MIN_VALUE : word.equals("MAX") ? Integer.MAX_VALUE : Integer.parseInt(word);
    }

    // ---- all that can be seen of it

    /** How many findings there were: all, then by kinds. */
    long[] status() {
        long[] status = new long[8];
        for (int which = -1; which < 7; which++) {
            status[which + 1] = ask("status " + which);
        }
        return status;
    }

    /** All else that can be seen, in words: the spring, the sheets, what the tape tells, the image. It is used up then. */
    String look() {
        StringBuilder seen = new StringBuilder();
        seeSpring(seen);
        for (int s = 0; s < 4; s++) {
            seeSheet(seen, s);
        }
        seen.append(" spring ").append(ask("spring"));
        seeSpring(seen);
        seen.append(" undo ").append(ask("undo"));
        seeSpring(seen);
        return seen.toString();
    }

    private void seeSpring(StringBuilder seen) {
        for (int what = 0; what < 7; what++) {
            seen.append(' ').append(ask("now " + what));
        }
        for (int what = 0; what < 4; what++) {
            seen.append(' ').append(ask("count " + what));
        }
        long calendars = ask("count 0");
        for (int c = 0; c < calendars; c++) {
            for (int what = 0; what < 5; what++) {
                seen.append(' ').append(ask("of " + c + " " + what));
            }
        }
        long pilgrims = ask("count 2");
        for (int p = 0; p < pilgrims; p++) {
            for (int what = 0; what < 3; what++) {
                seen.append(' ').append(ask("about " + p + " " + what));
            }
        }
    }

    private void seeSheet(StringBuilder seen, int s) {
        long number = 0;
        seen.append(" sheet ").append(s);
        for (int i = 0; i <= 40 && number != Checks.BEYOND && number != Checks.MISSING; i++) {
            number = ask("write " + s + " " + i + " 0");
            seen.append(' ').append(number);
        }
        // A number that tells 8, 16 and 64 bits apart.
        ask("write " + s + " 0 " + ((1L << 40) + (1L << 12) + 1));
        seen.append(" bits ").append(ask("write " + s + " 0 0"));
    }

    private static String lookAfter(String acts) {
        return LOOKS.computeIfAbsent(acts, a -> new Told(a).look());
    }

    // ---- rows of tables

    /** Each row: "promise: acts before => act = due"; nothing may stand before, and due may be a finding's name. */
    static void table(String rows) {
        for (String row : rows.split("\n")) {
            if (row.isBlank()) {
                continue;
            }
            int colon = row.indexOf(':');
            int arrow = row.indexOf("=>");
            int is = row.lastIndexOf(" = ");
            if (colon < 0 || arrow < colon || is < arrow) {
                throw new IllegalArgumentException("no row: " + row);
            }
            String due = row.substring(is + 3).trim();
            asked(row.substring(0, colon).trim(), row.substring(colon + 1, arrow).trim(),
                row.substring(arrow + 2, is).trim(), due);
        }
    }

    private static void asked(String promise, String before, String act, String due) {
        if (FINDINGS.containsKey(due)) {
            refused(promise, before, act, FINDINGS.get(due));
        } else if (ONLY_ANSWER.contains(act.split(" ")[0])) {
            unchanged(promise, before, before, act, Long.parseLong(due));
        } else {
            Checks.due(label(promise, before, act), new Told(before).ask(act), Long.parseLong(due));
        }
    }

    /** What a row is due: a number, or the name of a finding. */
    static long number(String due) {
        return FINDINGS.containsKey(due) ? FINDINGS.get(due) : Long.parseLong(due);
    }

    /** The act answers what is due, and all is then as by another road to the same. */
    static void alike(String road, String before, String other, String act, String due) {
        String label = label(road, before, act);
        Told one = new Told(before);
        int finding = FINDINGS.containsKey(due) ? Checks.BEYOND - FINDINGS.get(due) : -1;
        long counted = one.ask("status " + finding);
        Checks.due(label, one.ask(act), number(due));
        Checks.due(label + ", then status", one.ask("status " + finding), counted + (finding < 0 ? 0 : 1));
        String seen = one.look();
        String dueLook = lookAfter(other + " | " + act);
        Checks.holds(label + ", then" + seen + ", due" + dueLook, seen.equals(dueLook));
    }

    private static String label(String promise, String before, String act) {
        return promise + ": " + before + " => " + act;
    }

    /** The act answers a finding, which is counted, and nothing else changes. */
    static void refused(String promise, String before, String act, int finding) {
        changesBut(promise, before, before, act, finding, Checks.BEYOND - finding);
    }

    /** The act answers what is due, no finding; then all is as with the acts of after alone. */
    static void unchanged(String promise, String before, String after, String act, long due) {
        changesBut(promise, before, after, act, due, -1);
    }

    private static void changesBut(String promise, String before, String after, String act, long due, int counted) {
        String label = label(promise, before, act);
        Told one = new Told(before);
        long[] was = one.status();
        Checks.due(label, one.ask(act), due);
        long[] is = one.status();
        for (int i = 0; i < 8; i++) {
            boolean more = counted >= 0 && (i == 0 || i == counted + 1);
            Checks.due(label + ", then status(" + (i - 1) + ")", is[i], was[i] + (more ? 1 : 0));
        }
        String seen = one.look();
        String dueLook = lookAfter(after);
        Checks.holds(label + ", then" + seen + ", due" + dueLook, seen.equals(dueLook));
    }

    /** The names of all acts, so that a test can ask whether its tables leave one out. */
    static Set<String> names() {
        return new TreeSet<>(ACTS.keySet());
    }
}
