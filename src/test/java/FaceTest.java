import java.lang.reflect.Constructor;
import java.lang.reflect.Field;
import java.lang.reflect.Method;
import java.lang.reflect.Modifier;
import java.nio.file.Files;
import java.nio.file.Path;
import java.util.HashSet;
import java.util.Set;
import java.util.TreeSet;
import java.util.regex.Matcher;
import java.util.regex.Pattern;

/** The document's public face, and those rules of LANGUAGE.md that can be told from outside. */
public final class FaceTest {
    private static final String FACE = "int calendar(int) int of(int,int) int set(int,int,int) int turn(int,int) "
        + "int as(int,int) int date(int,int,int) int law(int,int) int pilgrim(int,int) int about(int,int) "
        + "int mind(int,int,int) int drink(int,int) int bathe(int) int days(int) int now(int) int on(int,int,int) "
        + "int well(int) int next(int) int agree(int,int,int) int row(int,int,int) int meet(int) "
        + "int both(int,int,int,int) int trust(int) int truth(int) int cure(int) int kind(int,int) int begin(int,int) "
        + "int power(int) int feed(int,int) int wipe() int spring() int sheet(int,int,int) long write(int,int,long) "
        + "int copy(int,int,int,int,int) int lays(int) int book(int,int) int read(int,int) int image() int undo() "
        + "int tear() int count(int) int status(int)";
    private static final String[] BANNED = {"throw", "throws", "try", "catch", "synchronized", "assert", "import",
        "package", "hashCode", "toString", "lambda", "Thread", "Random", "Object", "Exception", "volatile", "native"};
    private static final Set<String> CONSTANTS
        = Set.of("int", "long", "boolean", "char", "String", "int[]", "long[]", "char[]", "byte[]");

    // The first line of a method or a constructor, of the class itself or of one inside it.
    private static final Pattern HEADER
        = Pattern.compile("( {4}(?: {4})?)(?!(?:if|for|while|switch|else|do)\\b)([a-zA-Z].*\\) \\{)");

    public static void main(String[] args) throws Exception {
        face();
        members();
        String text = Files.readString(Path.of("src/main/java/EvenSpring.java"));
        source(text);
        lengths(text);
        headings(text);
        madeOnce(text);
        Checks.end();
    }

    private static void face() {
        Set<String> due = new TreeSet<>();
        for (String one : FACE.split("(?<=\\)) ")) {
            due.add(one);
        }
        Set<String> got = new TreeSet<>();
        for (Method m : EvenSpring.class.getDeclaredMethods()) {
            if (!Modifier.isPrivate(m.getModifiers())) {
                got.add(told(m));
            }
        }
        Checks.holds("face: " + got, got.equals(due));
        Checks.due("face: methods", due.size(), 41);
    }

    private static String told(Method m) {
        StringBuilder s = new StringBuilder(m.getReturnType().getName()).append(' ').append(m.getName()).append('(');
        for (Class<?> p : m.getParameterTypes()) {
            s.append(s.charAt(s.length() - 1) == '(' ? "" : ",").append(p.getName());
        }
        return s.append(')').toString();
    }

    private static void members() {
        Class<?> c = EvenSpring.class;
        Checks.holds("public and final", Modifier.isPublic(c.getModifiers()) && Modifier.isFinal(c.getModifiers()));
        Constructor<?>[] made = c.getDeclaredConstructors();
        Checks.holds("one constructor", made.length == 1 && made[0].getParameterCount() == 0
            && Modifier.isPublic(made[0].getModifiers()));
        Set<String> open = new HashSet<>();
        for (Method m : c.getDeclaredMethods()) {
            if (Modifier.isPublic(m.getModifiers())) {
                open.add(m.getName());
            }
        }
        inside(c, open);
        Checks.holds("at most twelve classes", c.getDeclaredClasses().length < 12);
        for (Class<?> one : c.getDeclaredClasses()) {
            Checks.holds(one + " is static", Modifier.isStatic(one.getModifiers()));
            Checks.holds(one + " isn't open", !Modifier.isPublic(one.getModifiers()));
            inside(one, open);
        }
    }

    private static void inside(Class<?> c, Set<String> open) {
        int own = 0;
        for (Field f : c.getDeclaredFields()) {
            Checks.holds(f + " is private", Modifier.isPrivate(f.getModifiers()));
            Checks.holds(f + " is final if static", !Modifier.isStatic(f.getModifiers()) || Modifier.isFinal(f.getModifiers()));
            Checks.holds(f + " is a constant if static", !Modifier.isStatic(f.getModifiers())
                || CONSTANTS.contains(f.getType().getSimpleName()));
            own += Modifier.isStatic(f.getModifiers()) ? 0 : 1;
        }
        Checks.holds(c + " has at most twenty fields", own <= 20);
        for (Method m : c.getDeclaredMethods()) {
            Checks.holds(m + " has at most seven parameters", m.getParameterCount() <= 7);
            Checks.holds(m + " has a name of its own", Modifier.isPublic(m.getModifiers()) || !open.contains(m.getName()));
        }
    }

    /** "Ahead of the calls .. the interface says: ---- .." */
    private static void headings(String text) {
        StringBuilder got = new StringBuilder();
        for (String line : text.split("\n")) {
            Matcher call = Pattern.compile(" {4}public (?:int|long) (\\w+)\\(.*").matcher(line);
            if (line.startsWith("    // ---- ")) {
                got.append(got.length() == 0 ? "" : " ").append(line.substring(12)).append(':');
            } else if (call.matches()) {
                got.append(' ').append(call.group(1));
            }
        }
        String due = "calendars: calendar of set turn as date law pilgrims, jugs: pilgrim about mind drink bathe "
            + "days: days now on well dates: next agree row meet both what is best: trust truth cure kind begin power "
            + "the text: feed wipe spring sheets: sheet write copy lays book read images: image undo tear count status "
            + "helpers:";
        Checks.holds("headings: " + got, got.toString().equals(due));
    }

    /** All calls of a run live in one room: only fields and constructors make objects, so no call makes any. */
    private static void madeOnce(String text) {
        String code = withoutWords(text);
        String method = "";
        int made = 0;
        for (String line : code.split("\n")) {
            Matcher header = HEADER.matcher(line);
            if (header.matches()) {
                method = header.group(2);
            }
            if (line.matches(".*\\b(new|clone|copyOf|copyOfRange)\\b.*")) {
                made++;
                boolean isField = line.matches(" {4}(?: {4})?private final \\S+ \\w+ = new .*;");
                boolean isConstructor = method.matches("(public )?[A-Z]\\w*\\(\\) \\{");
                Checks.holds("made once: " + line.trim(), isField || isConstructor);
            }
        }
        Checks.holds("objects are made", made > 0);
    }

    /** The text without comments and without what stands in quotes. */
    private static String withoutWords(String text) {
        return text.replaceAll("(?s)/\\*.*?\\*/", "").replaceAll("//[^\n]*", "").replaceAll("\"[^\"\n]*\"", "\"\"");
    }

    private static void source(String text) {
        String code = withoutWords(text);
        for (String word : BANNED) {
            Checks.holds("no " + word, !Pattern.compile("\\b" + word + "\\b").matcher(code).find());
        }
        Checks.holds("no lambda", !code.contains("->"));
        Checks.holds("no method reference", !code.contains("::"));
    }

    /** "Methods stay short (some sixty lines)". */
    private static void lengths(String text) {
        int methods = 0;
        int from = 0;
        int line = 0;
        String end = "";
        for (String one : text.split("\n")) {
            line++;
            Matcher header = HEADER.matcher(one);
            if (header.matches()) {
                from = line;
                end = header.group(1) + "}";
                methods++;
            } else if (from > 0 && one.equals(end)) {
                Checks.holds("the method of line " + from + " is short", line - from < 60);
                from = 0;
            }
        }
        Checks.holds("methods are found, each with its end", methods > 41 && from == 0);
    }
}
