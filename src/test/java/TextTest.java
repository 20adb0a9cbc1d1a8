/** Promises 29 to 31: feed, wipe, spring. */
public final class TextTest {
    public static void main(String[] args) {
        feed();
        feedIsFull();
        wipe();
        springOfAll();
        springComesToWhatThereIs();
        springOfManyItems();
        numbers();
        tokens();
        faults();
        faultsByOneLetter();
        faultsAtTheEdgesOfTokens();
        faultsByWhatThereIs();
        faultChangesNothing();
        Checks.end();
    }

    private static void feed() {
        EvenSpring x = new EvenSpring();
        Checks.due("29: 2 of 4 bytes", x.feed('x' << 24 | 'x' << 16 | 'o' << 8 | 'l', 2), 2);
        Checks.due("29: 1 of 4 bytes", x.feed('x' << 24 | 'x' << 16 | 'x' << 8 | 'd', 1), 3);
        Checks.due("29: 4 bytes", x.feed(' ' << 24 | ';' << 16 | 'c' << 8 | 'o', 4), 7);
        Checks.due("29: 3 of 4 bytes", x.feed('x' << 24 | 'u' << 16 | 'n' << 8 | 't', 3), 10);
        Checks.due("41: bytes", x.count(1), 10);
        Checks.allFind("29: beyond", Checks.BEYOND, x.feed(1, 0), x.feed(1, 5), x.feed(1, -1));
        Checks.due("41: bytes", x.count(1), 10);
        Checks.due("31: old ;count", x.spring(), 2);
        Checks.due("31: old", x.of(0, 0), 1);
        Checks.due("31: count", x.of(1, 0), 0);
        Checks.due("31: the tape is empty", x.count(1), 0);
        Checks.due("29: a number below 0", x.feed(-1, 4), 4);
        Checks.due("31: bytes of 255", x.spring(), -1);
    }

    private static void feedIsFull() {
        EvenSpring x = new EvenSpring();
        for (int i = 1; i <= 29; i++) {
            Checks.due("29: fed", x.feed(0x20202020, 4), 4 * i);
        }
        Checks.due("29: 118", x.feed(0x2020, 2), 118);
        Checks.due("29: full", x.feed(0x202020, 3), Checks.FULL);
        Checks.due("29: beyond comes first", x.feed(0, 5), Checks.BEYOND);
        Checks.due("29: as it was", x.count(1), 118);
        Checks.due("29: 120", x.feed(0x2020, 2), 120);
        Checks.due("29: full", x.feed(0x20, 1), Checks.FULL);
        Checks.due("31: ends too early", x.spring(), -121);
        Checks.due("29: again", x.feed('m', 1), 1);
    }

    private static void wipe() {
        EvenSpring x = new EvenSpring();
        Checks.due("30: nothing", x.wipe(), 0);
        Checks.feed(x, "count");
        Checks.due("30: five", x.wipe(), 5);
        Checks.due("30: empty", x.count(1), 0);
        Checks.due("31: an empty tape", x.spring(), -1);
        Checks.due("31: no finding", x.status(-1), 0);
    }

    private static void springOfAll() {
        EvenSpring x = new EvenSpring();
        Checks.due("31: all items", Checks.spring(x, "count;old begin 99;new length 60;cog left 0 ; leap reform 9999"
            + ";monk begin 1 length 1 "), 6);
        int[][] due = {{0, 0, 30, 11, 50}, {1, 99, 30, 11, 50}, {2, 0, 60, 11, 50}, {3, 0, 30, 0, 50},
            {4, 0, 30, 11, 9999}, {5, 1, 1, 11, 50}};
        for (int c = 0; c < 6; c++) {
            for (int what = 0; what < 5; what++) {
                Checks.due("31: of(" + c + ", " + what + ")", x.of(c, what), due[c][what]);
            }
        }
        Checks.due("31: pilgrims", Checks.spring(x, "pilgrim 99 trusts 5;pilgrim 0;truth 5;power 50;pilgrim 7 trusts 0"), 5);
        Checks.due("31: count", x.count(2), 3);
        int[][] about = {{99, 5, 0}, {0, -1, 0}, {7, 0, 0}};
        for (int p = 0; p < 3; p++) {
            for (int what = 0; what < 3; what++) {
                Checks.due("31: about(" + p + ", " + what + ")", x.about(p, what), about[p][what]);
            }
        }
        Checks.due("31: truth", x.now(2), 5);
        Checks.due("31: power", x.now(1), 50);
        Checks.due("31: no finding", x.status(-1), 0);
    }

    private static void springComesToWhatThereIs() {
        EvenSpring x = new EvenSpring();
        x.calendar(3);
        x.set(0, 1, 9);
        x.pilgrim(40, 0);
        x.law(0, 20);
        x.days(9);
        int ill = x.about(0, 0);
        int bathed = x.about(0, 2);
        Checks.due("31: one calendar more", Checks.spring(x, "leap begin 2 length 3 left 4 reform 5"), 1);
        Checks.due("31: calendars", x.count(0), 2);
        int[] due = {4, 2, 3, 4, 5};
        for (int what = 0; what < 5; what++) {
            Checks.due("31: of(1, " + what + ")", x.of(1, what), due[what]);
        }
        Checks.due("31: the first stays", x.of(0, 1), 9);
        Checks.due("31: day stays", x.now(0), 9);
        Checks.due("31: power stays", x.now(1), 20);
        Checks.due("31: jugs stay", x.now(3) + x.now(4), 1);
        Checks.due("31: ill stays", x.about(0, 0), ill);
        Checks.due("31: bathed stays", x.about(0, 2), bathed);
    }

    private static void springOfManyItems() {
        EvenSpring x = new EvenSpring();
        StringBuilder text = new StringBuilder("truth0");
        for (int i = 1; i < 17; i++) {
            text.append(";power").append(i % 9 + 1);
        }
        Checks.due("31: 118 bytes", text.length(), 118);
        Checks.due("31: 17 items", Checks.spring(x, text.toString()), 17);
        Checks.due("31: the latest counts", x.now(1), 16 % 9 + 1);
    }

    private static void numbers() {
        EvenSpring x = new EvenSpring();
        Checks.due("31: noughts ahead", Checks.spring(x, "power 00000000000000000000007"), 1);
        Checks.due("31: 7", x.now(1), 7);
        String[] wrong = {"power 51", "power 0", "truth 6", "power 9999", "power 10000", "power 4294967297",
            "power 18446744073709551617", "truth 99999999999999999999"};
        for (String text : wrong) {
            Checks.due("31: " + text, Checks.spring(x, text), -7);
        }
        String[] more = {"count begin 100", "count length 0", "count length 61", "count left 100", "count reform 10000",
            "pilgrim 100", "monk reform 4294967297", "old length 4294967297"};
        for (String text : more) {
            Checks.due("31: " + text, Checks.spring(x, text), -1 - text.lastIndexOf(' ') - 1);
        }
        Checks.due("31: no calendars", x.count(0), 0);
    }

    private static void tokens() {
        EvenSpring x = new EvenSpring();
        Checks.due("31: no blanks", Checks.spring(x, "count;old;pilgrim5trusts1;truth1"), 4);
        Checks.due("31: trusts", x.about(0, 1), 1);
        Checks.due("31: many blanks", Checks.spring(x, "   new   begin    5   ;   truth   2   "), 2);
        Checks.due("31: truth", x.now(2), 2);
        Checks.due("31: a number and a word", Checks.spring(x, "new begin5length7left8reform9"), 1);
        Checks.due("31: reform", x.of(3, 4), 9);
        String[] none = {"\t", "Count", "count2;", "!", "\n", ",", "-", "\0", "\u00e1"};
        int[] place = {0, 0, 5, 0, 0, 0, 0, 0, 0};
        for (int i = 0; i < none.length; i++) {
            Checks.due("31: token " + i, Checks.spring(x, none[i]), -1 - place[i]);
        }
        Checks.due("31: a tab between", Checks.spring(x, "truth\t2"), -6);
        Checks.due("31: a word as long as can be", Checks.spring(x, "countold"), -1);
        Checks.due("31: a shorter word", Checks.spring(x, "coun"), -1);
        Checks.due("31: a word in two", Checks.spring(x, "co unt"), -1);
        Checks.due("31: a number in two", Checks.spring(x, "power 1 2"), -9);
    }

    private static void fault(String text, int place) {
        EvenSpring x = new EvenSpring();
        Checks.due("31: fault in '" + text + "'", Checks.spring(x, text), -1 - place);
        Checks.due("31: nothing came of '" + text + "'", x.count(0) + x.count(1) + x.count(2) + x.now(2), 0);
        Checks.due("31: power is as it was", x.now(1), 10);
        Checks.due("31: no finding by '" + text + "'", x.status(-1), 0);
    }

    private static void faults() {
        fault("", 0);
        fault("  ", 2);
        fault(";", 0);
        fault(" ;", 1);
        fault("5", 0);
        fault("begin 5", 0);
        fault("trusts 0", 0);
        fault("count;", 6);
        fault("count; ", 7);
        fault("count;;old", 6);
        fault("count old", 6);
        fault("count 5", 6);
        fault("count begin", 11);
        fault("count begin ", 12);
        fault("count begin;", 11);
        fault("count begin old", 12);
        fault("count begin 5 begin 6", 14);
        fault("count length 5 begin 6", 15);
        fault("count left 5 length 6", 13);
        fault("count reform 5 left 6", 15);
        fault("count reform 5 reform 6", 15);
        fault("count begin 5 $", 14);
        fault("count begin 5 6", 14);
        fault("count trusts 0", 6);
        fault("pilgrim", 7);
        fault("pilgrim;", 7);
        fault("pilgrim trusts 0", 8);
        fault("pilgrim 5 trusts", 16);
        fault("pilgrim 5 trusts 0", 17);
        fault("pilgrim 5 trusts 0;count", 17);
        fault("count;pilgrim 5 trusts 1", 23);
        fault("count;pilgrim 5 trusts 0 trusts 0", 25);
        fault("pilgrim 5 begin 0", 10);
        fault("truth", 5);
        fault("truth ;", 6);
        fault("truth count", 6);
        fault("truth 1 2", 8);
        fault("power", 5);
        fault("power 5 power 6", 8);
        fault("truth 5;power 5;count;pilgrim 5;x", 32);
        fault("count;old;new;cog;leap;monk;count", 28);
        fault("count;old;new;cog;leap;monk;count $", 28);
        fault("pilgrim1;pilgrim1;pilgrim1;pilgrim1;pilgrim1;pilgrim1;pilgrim1;pilgrim1;pilgrim1", 72);
        fault("pilgrim1;pilgrim1;pilgrim1;pilgrim1;pilgrim1;pilgrim1;pilgrim1;pilgrim1;pilgrim", 72);
    }

    /** Each word with one of its letters changed is another word. */
    private static void faultsByOneLetter() {
        String[] texts = {"count", "old", "new", "cog", "leap", "monk", "pilgrim 5", "truth 5", "power 5",
            "count begin 5", "count length 5", "count left 5", "count reform 5", "count;pilgrim 5 trusts 0"};
        for (String text : texts) {
            Checks.holds("31: " + text, Checks.spring(new EvenSpring(), text) > 0);
            int word = 0;
            for (int i = 0; i < text.length(); i++) {
                char c = text.charAt(i);
                boolean isLetter = c >= 'a' && c <= 'z';
                word = isLetter ? word : i + 1;
                if (isLetter) {
                    fault(text.substring(0, i) + (c == 'z' ? 'y' : 'z') + text.substring(i + 1), word);
                }
            }
        }
    }

    private static void faultsAtTheEdgesOfTokens() {
        fault("counta", 0);
        fault("countz", 0);
        fault("count`", 5);
        fault("count{", 5);
        fault("countA", 5);
        fault("power 5/", 7);
        fault("power 5:", 7);
        fault("power 5<", 7);
        fault("power /", 6);
        fault("power :", 6);
        fault("power 5\u00b0", 7);
        fault("power -5", 6);
        fault("power +5", 6);
    }

    private static void faultsByWhatThereIs() {
        EvenSpring x = Checks.ofAllKinds();
        Checks.due("31: a 7th", Checks.spring(x, "power 5; leap"), -10);
        Checks.due("31: trusts 5", Checks.spring(x, "pilgrim 5 trusts 5"), 1);
        Checks.due("31: trusts 6", Checks.spring(x, "pilgrim 5 trusts 6"), -18);
        for (int p = 1; p < 8; p++) {
            x.pilgrim(1, -1);
        }
        Checks.due("31: a 9th", Checks.spring(x, "pilgrim 5"), -1);
        Checks.due("31: a law all the same", Checks.spring(x, "power 5"), 1);
    }

    private static void faultChangesNothing() {
        EvenSpring x = new EvenSpring();
        x.calendar(0);
        x.pilgrim(50, 0);
        x.image();
        Checks.due("31: a late fault", Checks.spring(x, "old;pilgrim 3 trusts 1;truth 1;power 1;y"), -40);
        Checks.due("31: calendars", x.count(0), 1);
        Checks.due("31: pilgrims", x.count(2), 1);
        Checks.due("31: truth", x.now(2), 0);
        Checks.due("31: power", x.now(1), 10);
        Checks.due("31: tape", x.count(1), 0);
        Checks.due("31: no finding", x.status(-1), 0);
        Checks.due("31: the image stays", x.tear(), 1);
        Checks.due("31: well afterwards", Checks.spring(x, "old"), 1);
        Checks.due("31: calendars", x.count(0), 2);
    }
}
