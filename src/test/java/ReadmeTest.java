import java.io.IOException;
import java.nio.file.Files;
import java.nio.file.Path;
import java.util.ArrayList;
import java.util.List;
import java.util.Set;
import java.util.TreeSet;
import java.util.regex.Matcher;
import java.util.regex.Pattern;
import java.util.stream.Stream;

/** What README.md says is so: each example is tried, and no call, finding or test is left out. */
public final class ReadmeTest {
    private static final Pattern CALL = Pattern.compile("x\\.(\\w+)\\(([^)]*)\\); +// (-?\\w+)(: .*)?");
    private static final Pattern FED = Pattern.compile("for \\(char c : \"(.*)\"\\.toCharArray\\(\\)\\) x\\.feed\\(c, 1\\);");
    private static final Pattern TEXT = Pattern.compile("\\| `(.*)` \\| (-?\\d+) \\|");
    private static final Pattern FINDING = Pattern.compile("\\| ([A-Z]+) \\| (-\\d+) \\| (\\d) \\|.*");
    private static final Pattern SPAN = Pattern.compile("\\| (`.*`) \\| [^|`]+ \\| (-?\\d+) \\| (\\d+) \\|");
    private static final Pattern ACT = Pattern.compile("`(\\w+)\\(([^)]*)\\)`");
    private static final String NEW = "EvenSpring x = new EvenSpring();";
    // There is all that a call of a span asks for: two calendars, a pilgrim, a good and a bad jug.
    private static final String READY = "2 calendar 0 | pilgrim 50 -1 | days 17";

    public static void main(String[] args) throws IOException {
        String page = Files.readString(Path.of("README.md"));
        examples(page);
        texts(page);
        spans(page);
        atFirst(page);
        rowOfTable(page);
        findings(page);
        calls(page);
        tests(page);
        Checks.end();
    }

    private static List<String> blocks(String page, String of) {
        List<String> blocks = new ArrayList<>();
        Matcher m = Pattern.compile("(?s)```" + of + "\n(.*?)```").matcher(page);
        while (m.find()) {
            blocks.add(m.group(1));
        }
        return blocks;
    }

    private static void examples(String page) {
        List<String> blocks = blocks(page, "java");
        Checks.due("examples", blocks.size(), 3);
        for (String block : blocks) {
            Told x = null;
            for (String line : block.split("\n")) {
                x = tried(x, line);
            }
        }
    }

    /** Each line makes an object, feeds a text or asks; a line that does none of these would stand untried. */
    private static Told tried(Told x, String line) {
        if (line.equals(NEW)) {
            return new Told("");
        }
        Matcher fed = FED.matcher(line);
        Matcher call = CALL.matcher(line);
        if (x != null && fed.matches()) {
            x.act("tell " + fed.group(1));
        } else if (x != null && call.matches()) {
            Checks.due("README: " + line, x.ask(inWords(call)), Told.number(call.group(3)));
        } else {
            Checks.holds("README: no example: " + line, false);
        }
        return x;
    }

    private static String inWords(Matcher call) {
        StringBuilder words = new StringBuilder(call.group(1));
        for (String argument : call.group(2).split(", ")) {
            words.append(' ').append(argument.startsWith("0x") ? Integer.decode(argument) : argument);
        }
        return words.toString();
    }

    private static void texts(String page) {
        int texts = 0;
        for (String line : page.split("\n")) {
            Matcher m = TEXT.matcher(line);
            if (m.matches()) {
                texts++;
                Checks.due("README: " + m.group(1), new Told("tell " + m.group(1)).ask("spring"), Long.parseLong(m.group(2)));
            }
        }
        Checks.due("README: texts", texts, 8);
    }

    private static void spans(String page) {
        int spans = 0;
        for (String line : page.split("\n")) {
            Matcher row = SPAN.matcher(line);
            if (row.matches()) {
                Matcher act = ACT.matcher(row.group(1));
                while (act.find()) {
                    String words = act.group(1) + " " + act.group(2).replace(",", "");
                    span(words, Integer.parseInt(row.group(2)), Integer.parseInt(row.group(3)));
                    spans++;
                }
            }
        }
        Checks.due("README: spans", spans, 26);
    }

    private static void span(String words, int least, int greatest) {
        for (int v : new int[] {least, (least + greatest) / 2, greatest}) {
            long answer = new Told(READY).ask(words.replace("#", "" + v));
            Checks.holds("README: " + words + " of " + v, answer != Checks.BEYOND && answer != Checks.SIZE);
        }
        boolean isSize = words.startsWith("sheet 0");
        Checks.due("README: " + words + ", one less", new Told(READY).ask(words.replace("#", "" + (least - 1))),
            isSize ? Checks.SIZE : Checks.BEYOND);
        Checks.due("README: " + words + ", one more", new Told(READY).ask(words.replace("#", "" + (greatest + 1))),
            Checks.BEYOND);
    }

    private static void atFirst(String page) {
        Matcher m = Pattern.compile("BEGIN (\\d+), LENGTH (\\d+), LEFT (\\d+) and REFORM (\\d+); POWER is (\\d+) and TRUTH (\\d+) at first")
            .matcher(page);
        boolean isTold = m.find();
        Checks.holds("README: what is at first", isTold);
        for (int what = 1; isTold && what <= 6; what++) {
            String act = what <= 4 ? "of 0 " + what : "now " + (what - 4);
            Checks.due("README: at first, " + act, new Told("calendar 0").ask(act), Long.parseLong(m.group(what)));
        }
    }

    private static void rowOfTable(String page) {
        List<String> blocks = blocks(page, "text");
        Checks.holds("README: a row of a table", blocks.size() == 2 && blocks.get(1).contains(" => "));
        Told.table(blocks.get(1));
    }

    private static void findings(String page) {
        int findings = 0;
        for (String line : page.split("\n")) {
            Matcher m = FINDING.matcher(line);
            if (m.matches()) {
                Checks.due("README: " + m.group(1), Told.number(m.group(1)), Long.parseLong(m.group(2)));
                Checks.due("README: status of " + m.group(1), Checks.BEYOND - Told.number(m.group(1)), Long.parseLong(m.group(3)));
                findings++;
            }
        }
        Checks.due("README: findings", findings, 7);
    }

    private static void calls(String page) {
        Set<String> left = new TreeSet<>(Told.names());
        left.removeIf(name -> page.contains("`" + name + "("));
        Checks.holds("README: every call is told of, but for " + left, left.isEmpty());
    }

    private static void tests(String page) throws IOException {
        Set<String> told = new TreeSet<>();
        Matcher m = Pattern.compile("(?m)^\\| (\\w+Test) \\|").matcher(page);
        while (m.find()) {
            told.add(m.group(1));
        }
        Set<String> there = new TreeSet<>();
        try (Stream<Path> files = Files.list(Path.of("src/test/java"))) {
            files.map(f -> f.getFileName().toString()).filter(f -> f.endsWith("Test.java"))
                .forEach(f -> there.add(f.substring(0, f.length() - 5)));
        }
        Checks.holds("README: the tests are " + there, told.equals(there));
    }
}
