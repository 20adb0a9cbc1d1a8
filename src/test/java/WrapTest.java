import java.util.Set;
import java.util.TreeSet;

/** A wrap-around: arguments far outside any span, long rows of digits, the lowest bits of numbers, copies within a sheet. */
public final class WrapTest {
    // Three CALENDARS, three PILGRIMS, jugs of both kinds, sheets 0 and 1 alike, 2 of 64 bits, a text, an image.
    private static final String THERE = "2 calendar 0 | calendar 3 | pilgrim 50 0 | pilgrim 60 -1 | pilgrim 70 2 | days 10 "
        + "| sheet 0 8 3 | sheet 1 8 3 | sheet 2 64 3 | write 0 1 77 | image | tell old;power 7";
    // Each may be done there as it stands; * marks an argument that may be any number.
    private static final String[] MAY_BE = {"calendar 1", "of 1 1", "set 1 1 5", "turn 1 1", "as 1 0", "date 1 5 1",
        "law 0 5", "law 1 1", "pilgrim 5 1", "about 1 1", "mind 1 0 5", "mind 1 1 1", "drink 1 1", "bathe 1", "days 5",
        "now 1", "on 1 5 1", "well 1", "next 1", "agree 0 1 5", "row 0 1 5", "meet 3", "both 0 5 1 5", "trust 1",
        "truth 5", "cure 1", "kind 1 5", "begin 1 5", "power 5", "feed * 1", "wipe", "spring", "sheet 1 8 5",
        "write 1 1 *", "copy 0 1 1 1 1", "lays 1", "book 1 1", "read 1 1", "image", "undo", "tear", "count 1", "status 1"};
    private static final int[] FAR = {Integer.MIN_VALUE, Integer.MIN_VALUE + 1, Integer.MAX_VALUE, Integer.MAX_VALUE - 1};
    // A number that may be is one that may not be with any of these more, but its lowest bits are the same.
    private static final int[] MORE = {1 << 17, -(1 << 17), 1 << 20, 1 << 24, 1 << 30, -(1 << 30), 1 << 31};

    public static void main(String[] args) {
        everyArgument();
        anyBytes();
        anyNumber();
        lowestBits();
        numbersThatLookOtherwise();
        copyWithin();
        longRowsOfDigits();
        longDigitsOfFields();
        Checks.end();
    }

    private static void everyArgument() {
        Set<String> left = new TreeSet<>(Told.names());
        for (String act : MAY_BE) {
            String[] words = act.split(" ");
            left.remove(words[0]);
            Checks.holds("it may be: " + act, new Told(THERE).ask(act.replace('*', '5')) > -1000000000);
            for (int i = 1; i < words.length; i++) {
                if (!words[i].equals("*")) {
                    farOutside(words, i);
                }
            }
        }
        Checks.holds("every act is asked, but for " + left, left.isEmpty());
    }

    private static void farOutside(String[] words, int i) {
        String own = words[i];
        for (int far : FAR) {
            refused(words, i, far);
        }
        for (int more : MORE) {
            refused(words, i, Integer.parseInt(own) + more);
        }
        words[i] = own;
    }

    private static void refused(String[] words, int i, int v) {
        words[i] = String.valueOf(v);
        boolean isSize = words[0].equals("sheet") && i == 3 && v < 0;
        Told.refused("far", THERE, String.join(" ", words).replace('*', '5'), isSize ? Checks.SIZE : Checks.BEYOND);
    }

    /** "the n lowest bytes of a number behind it, the highest of these first". */
    private static void anyBytes() {
        int old = 'o' << 16 | 'l' << 8 | 'd';
        for (int high = 0; high < 256; high++) {
            Checks.due("29: three bytes behind " + high, new Told("").ask("feed " + (high << 24 | old) + " 3"), 3);
            Checks.due("29: old behind " + high, new Told("feed " + (high << 24 | old) + " 3").ask("spring"), 1);
        }
        Told.table("""
            29: => feed MIN 4 = 4
            29: => feed MAX 4 = 4
            29: => feed -1 1 = 1
            31: feed MIN 4 => spring = -1
            31: feed MAX 4 => spring = -1
            31: feed 32 1 | feed MIN 4 => spring = -2
            31: feed 538976288 4 | feed MIN 3 => spring = -5
            31: feed -1 1 => spring = -1
            """);
        // Every byte by itself behind an item: only blanks may stand there, and letters make another word of it.
        for (int b = 0; b < 256; b++) {
            boolean isLetter = b >= 'a' && b <= 'z';
            long due = b == ' ' ? 1 : isLetter ? -1 : b == ';' ? -5 : -4;
            Checks.due("31: old and byte " + b, new Told("feed " + old + " 3 | feed " + b + " 1").ask("spring"), due);
            Checks.due("31: old and number " + (b - 256), new Told("feed " + old + " 3 | feed " + (b - 256) + " 1").ask("spring"), due);
        }
    }

    /** "Number i of a sheet becomes v (its lowest bits): what it was". */
    private static void anyNumber() {
        Told.table("""
            33: sheet 0 8 1 | write 0 0 MIN => write 0 0 0 = 0
            33: sheet 0 8 1 | write 0 0 MAX => write 0 0 0 = -1
            33: sheet 0 16 1 | write 0 0 MIN => write 0 0 0 = 0
            33: sheet 0 16 1 | write 0 0 MAX => write 0 0 0 = -1
            33: sheet 0 64 1 | write 0 0 MIN => write 0 0 0 = -9223372036854775808
            33: sheet 0 64 1 | write 0 0 MAX => write 0 0 0 = 9223372036854775807
            33: sheet 0 8 1 => write 0 0 MIN = 0
            33: => write 0 0 MIN = MISSING
            33: => write 4 0 MAX = BEYOND
            33: sheet 0 8 1 => write 0 1 MIN = BEYOND
            33: sheet 0 8 1 | write 0 0 1 | write 0 1 MAX => write 0 0 0 = 1
            """);
    }

    private static void lowestBits() {
        long[] eight = {127, 127, 128, -128, 129, -127, 255, -1, 256, 0, 257, 1, -128, -128, -129, 127, -255, 1, -256, 0,
            65536 + 99, 99, (1L << 32) + 50, 50, (1L << 63) + 127, 127, 300, 44};
        long[] sixteen = {32767, 32767, 32768, -32768, 65535, -1, 65536, 0, 65537, 1, -32768, -32768, -32769, 32767,
            -65536, 0, (1L << 32) + 300, 300, 128, 128, 255, 255, 256, 256, -129, -129};
        long[] all = {128, 128, 32768, 32768, 65536, 65536, 1L << 31, 1L << 31, 1L << 32, 1L << 32, -1, -1,
            -(1L << 31) - 1, -(1L << 31) - 1, 1L << 62, 1L << 62};
        writeEach(8, eight);
        writeEach(16, sixteen);
        writeEach(64, all);
    }

    private static void writeEach(int bits, long[] pairs) {
        for (int i = 0; i < pairs.length; i += 2) {
            Told one = new Told("sheet 1 " + bits + " 3 | write 1 0 7 | write 1 2 9");
            one.ask("write 1 1 " + pairs[i]);
            Checks.due("33: " + pairs[i] + " of " + bits + " bits", one.ask("write 1 1 0"), pairs[i + 1]);
            Checks.due("33: the one ahead stays", one.ask("write 1 0 0"), 7);
            Checks.due("33: the one behind stays", one.ask("write 1 2 0"), 9);
        }
    }

    /** A number of 64 bits is no ILL by its lowest bits, and one that looks like a finding is none. */
    private static void numbersThatLookOtherwise() {
        Told.table("""
            35: pilgrim 50 -1 | sheet 0 64 1 | write 0 0 4294967301 => lays 0 = 0
            35: pilgrim 50 -1 | sheet 0 64 1 | write 0 0 4294967301 | lays 0 => about 0 0 = 50
            35: pilgrim 50 -1 | sheet 0 64 1 | write 0 0 MIN => lays 0 = 0
            35: pilgrim 50 -1 | sheet 0 64 1 | write 0 0 MAX => lays 0 = 0
            35: pilgrim 50 -1 | sheet 0 8 1 | write 0 0 261 => lays 0 = 1
            35: pilgrim 50 -1 | sheet 0 8 1 | write 0 0 261 | lays 0 => about 0 0 = 5
            35: pilgrim 50 -1 | sheet 0 16 1 | write 0 0 261 => lays 0 = 0
            37: calendar 0 | pilgrim 50 -1 | sheet 0 64 1 | write 0 0 50 => read 0 0 = 2
            37: calendar 0 | pilgrim 50 -1 | sheet 0 64 1 | write 0 0 4294967346 => read 0 0 = 0
            37: calendar 0 | pilgrim 50 -1 | sheet 0 16 1 | write 0 0 65586 => read 0 0 = 2
            33: sheet 0 64 1 | write 0 0 -1000000001 | write 0 0 -1000000006 => status -1 = 0
            """);
    }

    /** "n numbers of a sheet from one on come to another one from one on (as they all were)". */
    private static void copyWithin() {
        for (int from = 0; from <= 5; from++) {
            for (int to = 0; to <= 5; to++) {
                for (int n = 0; n <= 5 - Math.max(from, to); n++) {
                    copyOnce(from, to, n);
                }
            }
        }
        Told one = new Told("sheet 2 8 40");
        for (int i = 0; i < 40; i++) {
            one.ask("write 2 " + i + " " + i);
        }
        Checks.due("34: all but one of forty", one.ask("copy 2 0 2 1 39"), 39);
        for (int i = 0; i < 40; i++) {
            Checks.due("34: number " + i + " of forty", one.ask("write 2 " + i + " 0"), Math.max(0, i - 1));
        }
    }

    private static void copyOnce(int from, int to, int n) {
        Told one = new Told("sheet 2 16 5");
        long[] due = new long[5];
        for (int i = 0; i < 5; i++) {
            one.ask("write 2 " + i + " " + (300 + i));
            due[i] = i >= to && i < to + n ? 300 + i - to + from : 300 + i;
        }
        String act = "copy 2 " + from + " 2 " + to + " " + n;
        Checks.due("34: " + act, one.ask(act), n);
        for (int i = 0; i < 5; i++) {
            Checks.due("34: " + act + ", then number " + i, one.ask("write 2 " + i + " 0"), due[i]);
        }
    }

    /** "NUMBERS (digits, 9999 at most)"; a row of them as long as can be is one NUMBER. */
    private static void longRowsOfDigits() {
        String[] wraps = {"10000", "65537", "65546", "2147483647", "2147483648", "4294967296", "4294967297", "4294967306",
            "9223372036854775807", "9223372036854775808", "18446744073709551616", "18446744073709551617",
            "340282366920938463463374607431768211457", "9".repeat(114), "1" + "0".repeat(113)};
        for (String digits : wraps) {
            Told.unchanged("31", "calendar 0 | tell power " + digits, "calendar 0", "spring", -7);
            Told.unchanged("31", "calendar 0 | tell truth " + digits, "calendar 0", "spring", -7);
        }
        for (int noughts = 0; noughts <= 113; noughts++) {
            String text = "power " + "0".repeat(noughts) + "7";
            Checks.due("31: " + text, new Told("tell " + text).ask("spring"), 1);
            Checks.due("31: the number of " + text, new Told("tell " + text + " | spring").ask("now 1"), 7);
        }
        Checks.due("31: only noughts", new Told("tell truth " + "0".repeat(114)).ask("spring"), 1);
        Checks.due("31: only noughts, no power", new Told("tell power " + "0".repeat(114)).ask("spring"), -7);
    }

    private static void longDigitsOfFields() {
        String[] wraps = {"10000", "65540", "4294967300", "18446744073709551620", "9".repeat(60)};
        String[] heads = {"old begin ", "old length ", "old left ", "old reform ", "pilgrim ", "pilgrim 5 trusts ",
            "old; pilgrim 5 trusts "};
        for (String head : heads) {
            for (String digits : wraps) {
                Told.unchanged("31", "calendar 0 | tell " + head + digits, "calendar 0", "spring", -1 - head.length());
            }
            Checks.holds("31: " + head + "001", new Told("2 calendar 0 | tell " + head + "0".repeat(40) + "1").ask("spring") > 0);
        }
        Checks.due("31: reform 9999", new Told("tell old reform 0009999 | spring").ask("of 0 4"), 9999);
    }
}
