import java.util.Set;
import java.util.TreeSet;

/** Empty and full: what each act answers where there is nothing, and where there is as much as may be. */
public final class EmptyFullTest {
    // What each act answers of a new object.
    private static final String NEW = """
        2: => calendar 0 = 0
        3: => of 0 0 = BEYOND
        4: => set 0 1 5 = BEYOND
        5: => turn 0 1 = BEYOND
        6: => as 0 0 = BEYOND
        7: => date 0 0 0 = BEYOND
        8: => law 0 10 = 10
        8: => law 1 5 = 0
        9: => pilgrim 5 0 = BEYOND
        9: => pilgrim 5 -1 = 0
        10: => about 0 0 = BEYOND
        11: => mind 0 0 5 = BEYOND
        12: => drink 0 0 = BEYOND
        12: => drink 0 1 = BEYOND
        13: => bathe 0 = BEYOND
        14: => days 1 = 0
        15: => now 0 = 0
        15: => now 1 = 10
        15: => now 2 = 0
        15: => now 3 = 0
        15: => now 4 = 0
        15: => now 5 = 0
        15: => now 6 = 0
        16: => on 0 0 0 = BEYOND
        17: => well 0 = BEYOND
        18: => next 0 = BEYOND
        19: => agree 0 1 5 = BEYOND
        20: => row 0 1 5 = BEYOND
        21: => meet 0 = BEYOND
        21: => meet 1 = BEYOND
        22: => both 0 1 1 1 = BEYOND
        23: => trust 0 = BEYOND
        24: => truth 1 = NONE
        25: => cure 0 = BEYOND
        26: => kind 0 1 = BEYOND
        27: => begin 0 1 = BEYOND
        28: => power 100 = 1
        29: => feed 97 1 = 1
        30: => wipe = 0
        31: => spring = -1
        32: => sheet 0 8 1 = 1
        33: => write 0 0 1 = MISSING
        34: => copy 0 0 1 0 0 = MISSING
        35: => lays 0 = MISSING
        36: => book 0 0 = MISSING
        37: => read 0 0 = MISSING
        38: => image = 1
        39: => undo = NONE
        40: => tear = 0
        41: => count 0 = 0
        41: => count 1 = 0
        41: => count 2 = 0
        41: => count 3 = 0
        42: => status -1 = 0
        42: => status 0 = 0
        42: => status 6 = 0
        """;

    public static void main(String[] args) {
        newObject();
        noCalendars();
        oneCalendar();
        noPilgrims();
        nobodyIsIll();
        noJugs();
        emptyTape();
        sheetsOfNone();
        missingSheets();
        noImage();
        fullOfCalendars();
        fullOfPilgrims();
        fullTape();
        fullSheets();
        Checks.end();
    }

    /** "No CALENDARS, no PILGRIMS; THE TAPE is empty, no image is kept"; SHEETS are MISSING at first. */
    private static void newObject() {
        Told.table(NEW);
        Set<String> left = new TreeSet<>(Told.names());
        for (String row : NEW.split("\n")) {
            left.remove(row.substring(row.indexOf("=>") + 2).trim().split(" ")[0]);
        }
        Checks.holds("1: every act is asked of a new object, but for " + left, left.isEmpty());
        for (int s = 0; s < 4; s++) {
            Told.refused("3", "", "write " + s + " 0 0", Checks.MISSING);
        }
    }

    /** "(Without a CALENDAR of that number no day is HOLY by it.)" */
    private static void noCalendars() {
        Told.table("""
            13: pilgrim 50 -1 => bathe 0 = 55
            14: pilgrim 50 -1 | days 3 => about 0 0 = 65
            14: pilgrim 50 -1 | days 3 => now 4 = 1
            14: pilgrim 50 -1 | days 3 => now 3 = 0
            16: pilgrim 50 -1 => on 0 2 0 = 60
            17: pilgrim 50 -1 => well 0 = NONE
            23: pilgrim 50 -1 => trust 0 = NONE
            23: pilgrim 0 -1 => trust 0 = -1
            24: pilgrim 50 -1 => truth 100 = NONE
            25: pilgrim 50 -1 => cure 0 = NONE
            25: pilgrim 0 -1 => cure 0 = STATE
            28: pilgrim 50 -1 => power 100 = 1
            37: pilgrim 50 -1 | sheet 0 8 0 => read 0 0 = 0
            37: pilgrim 50 -1 | sheet 0 8 1 | write 0 0 50 => read 0 0 = 0
            39: image | calendar 0 => undo = 0
            """);
        // TRUTH is a number without a CALENDAR, though there are others.
        Told.table("""
            13: calendar 0 | set 0 1 1 | law 1 1 | pilgrim 50 0 => bathe 0 = 55
            14: calendar 4 | set 0 2 1 | law 1 1 | pilgrim 50 0 | days 3 => about 0 0 = 65
            14: calendar 4 | set 0 2 1 | law 1 5 | days 3 => now 4 = 1
            14: calendar 4 | set 0 2 1 | law 1 5 | days 3 => now 3 = 0
            17: calendar 0 | law 1 1 | pilgrim 1 0 => well 0 = NONE
            23: calendar 0 | law 1 1 | pilgrim 1 0 => trust 0 = NONE
            23: calendar 0 | law 1 1 | pilgrim 0 0 => trust 0 = 0
            24: calendar 0 | law 1 1 | pilgrim 9 0 => truth 2 = 0
            25: calendar 0 | law 1 1 | pilgrim 9 0 => cure 0 = NONE
            26: calendar 0 | law 1 1 => kind 0 1 = STATE
            26: calendar 0 | law 1 1 | calendar 0 => kind 0 1 = 0
            27: calendar 0 | law 1 1 => begin 0 1 = STATE
            27: calendar 0 | law 1 1 | calendar 0 => begin 0 1 = 0
            28: calendar 0 | law 1 1 | pilgrim 9 0 => power 100 = 1
            37: calendar 0 | law 1 5 | pilgrim 9 0 | sheet 0 8 0 => read 0 0 = 2
            """);
    }

    /** What asks of two CALENDARS finds no second one, and one and the same is BEYOND. */
    private static void oneCalendar() {
        Told.table("""
            19: calendar 0 => agree 0 1 5 = BEYOND
            19: calendar 0 => agree 0 0 5 = BEYOND
            20: calendar 0 => row 0 1 5 = BEYOND
            20: calendar 0 => row 0 0 5 = BEYOND
            21: calendar 0 => meet 1 = 1
            22: calendar 0 => both 0 1 1 1 = BEYOND
            22: calendar 0 => both 0 1 0 1 = BEYOND
            24: calendar 0 => truth 1 = 0
            26: calendar 3 => kind 0 400 = 0
            27: calendar 3 | set 0 1 9 => begin 0 100 = 0
            """);
    }

    private static void noPilgrims() {
        Told.table("""
            14: calendar 0 => days 400 = 0
            15: calendar 0 | days 400 => now 5 = 0
            15: calendar 0 | days 400 => now 6 = 0
            24: 2 calendar 0 => truth 100 = 0
            28: calendar 0 => power 1 = 1
            35: sheet 0 8 40 => lays 0 = 0
            36: sheet 0 8 40 => book 0 0 = BEYOND
            37: calendar 0 | sheet 0 8 0 => read 0 0 = BEYOND
            41: calendar 0 | days 9 => count 3 = 0
            """);
    }

    /** "WELL: ILL is 0"; "each PILGRIM by numbers that is ILL (above 0) bathes". */
    private static void nobodyIsIll() {
        Told.table("""
            14: calendar 0 | 2 pilgrim 0 -1 => days 9 = 2
            14: calendar 0 | 2 pilgrim 0 -1 | days 9 => count 3 = 0
            15: calendar 0 | 2 pilgrim 0 -1 => now 6 = 3
            16: calendar 0 | 2 pilgrim 0 -1 => on 1 400 0 = 0
            17: calendar 0 | 2 pilgrim 0 -1 => well 1 = 0
            23: 2 calendar 0 | law 1 1 | pilgrim 0 1 => trust 0 = 0
            24: 2 calendar 0 | pilgrim 0 -1 => truth 100 = 0
            25: calendar 0 | pilgrim 0 -1 => cure 0 = STATE
            28: calendar 0 | pilgrim 0 -1 => power 1 = 1
            36: calendar 0 | pilgrim 0 -1 | sheet 0 8 40 | book 0 0 => write 0 39 5 = 0
            37: calendar 0 | pilgrim 0 -1 | sheet 0 8 40 => read 0 0 = 2
            """);
    }

    /** "STATE: there is none such"; the other ones do not stand in for it. */
    private static void noJugs() {
        Told.table("""
            12: pilgrim 50 -1 => drink 0 0 = STATE
            12: pilgrim 50 -1 => drink 0 1 = STATE
            12: pilgrim 50 -1 | mind 0 0 0 | days 3 => drink 0 1 = STATE
            12: pilgrim 50 -1 | mind 0 0 0 | days 3 => drink 0 0 = 5
            12: pilgrim 50 -1 | mind 0 0 0 | days 3 | drink 0 0 => drink 0 0 = STATE
            12: pilgrim 50 -1 | mind 0 0 0 | days 3 | drink 0 0 => now 4 = 0
            12: calendar 4 | set 0 2 1 | pilgrim 0 -1 | days 3 => drink 0 0 = STATE
            12: calendar 4 | set 0 2 1 | pilgrim 0 -1 | days 3 | drink 0 1 => drink 0 1 = STATE
            12: calendar 4 | set 0 2 1 | pilgrim 0 -1 | days 3 | drink 0 1 => now 3 = 0
            """);
    }

    /** "THE TAPE is empty: how many it had"; an empty text "ends too early". */
    private static void emptyTape() {
        Told.table("""
            30: tell old => wipe = 3
            30: tell old | wipe => wipe = 0
            30: tell old | wipe => spring = -1
            30: tell old | wipe => count 1 = 0
            31: tell old => spring = 1
            31: tell old | spring => spring = -1
            31: tell old | spring => count 1 = 0
            31: tell old | spring => wipe = 0
            31: tell older => spring = -1
            31: tell older | spring => count 1 = 0
            """);
        Told.unchanged("31", "calendar 0 | image", "calendar 0 | image", "spring", -1);
        Told.unchanged("30", "calendar 0 | image", "calendar 0 | image", "wipe", 0);
        Told.unchanged("30", "calendar 0 | tell old;cog", "calendar 0", "wipe", 7);
    }

    /** A sheet of 0 numbers isn't MISSING. */
    private static void sheetsOfNone() {
        Told.table("""
            33: sheet 0 8 0 => write 0 0 5 = BEYOND
            34: sheet 0 8 0 => copy 0 0 0 0 0 = 0
            34: sheet 0 8 0 | sheet 1 8 5 => copy 0 0 1 5 0 = 0
            34: sheet 0 8 0 | sheet 1 8 5 => copy 0 0 1 0 1 = BEYOND
            34: sheet 0 8 0 | sheet 1 8 5 => copy 1 0 0 0 1 = BEYOND
            34: sheet 0 8 0 | sheet 1 16 0 => copy 0 0 1 0 0 = KIND
            35: pilgrim 50 -1 | sheet 0 8 0 => lays 0 = 0
            36: pilgrim 50 -1 | sheet 0 8 0 => book 0 0 = 0
            37: pilgrim 50 -1 | calendar 0 | sheet 0 8 0 => read 0 0 = 2
            37: pilgrim 50 -1 | 6 calendar 0 | sheet 0 8 0 => read 0 0 = 42
            """);
    }

    /** "bits 0: it is MISSING"; "MISSING: one is". */
    private static void missingSheets() {
        Told.table("""
            32: sheet 2 8 5 => sheet 2 0 5 = 0
            33: sheet 2 8 5 | sheet 2 0 5 => write 2 0 5 = MISSING
            32: sheet 2 8 5 | sheet 2 0 5 => sheet 2 0 5 = 0
            32: sheet 2 8 5 | write 2 4 7 | sheet 2 0 5 | sheet 2 8 5 => write 2 4 1 = 0
            32: sheet 2 8 5 | write 2 4 7 | sheet 2 8 5 => write 2 4 1 = 0
            32: sheet 2 8 5 | write 2 0 7 | sheet 2 8 5 => write 2 0 1 = 0
            32: sheet 2 8 5 | write 2 0 7 | sheet 2 16 1 => write 2 0 1 = 0
            32: sheet 2 8 5 | write 2 4 7 | sheet 2 8 2 | sheet 2 8 5 => write 2 4 1 = 0
            34: sheet 0 8 5 => copy 0 0 2 0 1 = MISSING
            34: sheet 0 8 5 => copy 2 0 0 0 1 = MISSING
            34: sheet 0 8 5 => copy 2 0 3 0 1 = MISSING
            34: sheet 0 8 5 => copy 2 0 2 0 0 = MISSING
            35: pilgrim 5 -1 | sheet 2 8 5 | sheet 2 0 0 => lays 2 = MISSING
            36: pilgrim 5 -1 | sheet 2 8 5 | sheet 2 0 0 => book 2 0 = MISSING
            37: pilgrim 5 -1 | sheet 2 8 5 | sheet 2 0 0 => read 2 0 = MISSING
            """);
    }

    /** "NONE: nothing is kept"; "what was kept latest (which stays)"; "Nothing is kept: 1 if something was, else 0". */
    private static void noImage() {
        Told.table("""
            39: calendar 0 => undo = NONE
            39: calendar 0 | image | tear => undo = NONE
            39: calendar 0 | image | undo => undo = 1
            39: calendar 0 | image | calendar 0 | image | 3 calendar 0 => undo = 2
            39: calendar 0 | image | calendar 0 | image | 3 calendar 0 | undo => undo = 2
            39: image | calendar 0 | undo => count 0 = 0
            40: calendar 0 => tear = 0
            40: calendar 0 | image => tear = 1
            40: calendar 0 | 2 image => tear = 1
            40: calendar 0 | 2 image | tear => tear = 0
            40: calendar 0 | image | undo => tear = 1
            40: calendar 0 | image | calendar 0 | tear => count 0 = 2
            38: image => image = 1
            38: image | tear | calendar 0 | image => undo = 1
            """);
        // An image of nothing, kept while there is as much as may be: all is as in a new object then.
        String emptied = "image | 6 calendar 5 | set 0 2 9 | law 0 50 | law 1 5 | 8 pilgrim 99 0 | 2 days 400 | tell old | undo";
        Told.unchanged("39", emptied, "image | tell old", "undo", 0);
        Told.table("39: " + emptied + " => calendar 0 = 0\n39: " + emptied + " | calendar 0 => of 0 2 = 30\n"
            + "39: " + emptied + " => pilgrim 5 -1 = 0\n39: " + emptied + " | pilgrim 5 -1 => about 0 2 = 0\n"
            + "39: " + emptied + " => now 4 = 0\n39: " + emptied + " => count 1 = 3");
        // And the other way: as much as may be comes back.
        String filled = "6 calendar 5 | set 5 1 99 | 8 pilgrim 99 5 | 2 days 400 | image";
        Told.unchanged("39", filled + " | turn 5 0 | set 5 1 7 | mind 7 0 3 | mind 7 1 -1 | 2 days 400 | law 0 3 | law 1 3",
            filled, "undo", 6);
    }

    /** "CALENDARS 0, 1, .. (at most 6)": the 6th and a 7th. */
    private static void fullOfCalendars() {
        Told.table("""
            2: 5 calendar 0 => calendar 3 = 5
            2: 5 calendar 0 | calendar 3 => of 5 0 = 3
            2: 6 calendar 0 => calendar 3 = FULL
            31: 5 calendar 0 | tell cog => spring = 1
            31: 5 calendar 0 | tell cog | spring => of 5 0 = 3
            31: 6 calendar 0 | tell cog => spring = -1
            2: 5 calendar 0 | tell cog | spring => calendar 0 = FULL
            4: 6 calendar 0 => set 5 1 99 = 0
            4: 6 calendar 0 => set 6 1 99 = BEYOND
            8: 6 calendar 0 => law 1 5 = 0
            8: 6 calendar 0 => law 1 6 = BEYOND
            9: 6 calendar 0 => pilgrim 5 5 = 0
            9: 6 calendar 0 => pilgrim 5 6 = BEYOND
            13: 6 calendar 0 | law 1 5 | set 5 1 1 | pilgrim 50 5 => bathe 0 = 40
            14: 6 calendar 0 | law 1 5 | set 5 1 1 | pilgrim 50 5 | days 1 => about 0 0 = 40
            18: 6 calendar 0 | set 5 1 1 => next 5 = 0
            18: 6 calendar 0 => next 6 = BEYOND
            19: 6 calendar 0 => agree 4 5 400 = 400
            20: 6 calendar 0 => row 5 4 400 = 400
            21: 6 calendar 0 => meet 63 = 1
            22: 6 calendar 0 => both 5 30 4 30 = 29
            23: 6 calendar 0 | set 5 1 1 | law 1 5 | pilgrim 10 0 => trust 0 = 5
            24: 6 calendar 0 | set 5 1 1 | pilgrim 10 -1 => truth 1 = 5
            26: 6 calendar 5 | law 1 5 => kind 0 400 = 5
            27: 6 calendar 0 | set 5 1 1 | law 1 5 => begin 0 100 = 1
            39: 6 calendar 0 | image => undo = 6
            41: 6 calendar 0 => count 0 = 6
            """);
    }

    /** "PILGRIMS 0, 1, .. (at most 8)": the 8th and a 9th. */
    private static void fullOfPilgrims() {
        Told.table("""
            9: 7 pilgrim 5 -1 => pilgrim 99 -1 = 7
            9: 7 pilgrim 5 -1 | pilgrim 99 -1 => about 7 0 = 99
            9: 8 pilgrim 5 -1 => pilgrim 5 -1 = FULL
            31: 7 pilgrim 5 -1 | tell pilgrim 8 => spring = 1
            31: 7 pilgrim 5 -1 | tell pilgrim 8 | spring => about 7 0 = 8
            31: 8 pilgrim 5 -1 | tell pilgrim 8 => spring = -1
            9: 7 pilgrim 5 -1 | tell pilgrim 8 | spring => pilgrim 5 -1 = FULL
            11: 8 pilgrim 5 -1 => mind 7 0 9 = 5
            11: 8 pilgrim 5 -1 => mind 8 0 9 = BEYOND
            13: 8 pilgrim 5 -1 => bathe 7 = 10
            13: 8 pilgrim 5 -1 => bathe 8 = BEYOND
            14: 8 pilgrim 0 -1 => days 1 = 8
            14: 8 pilgrim 5 -1 | days 1 => now 5 = 80
            15: 8 pilgrim 0 -1 => now 6 = 255
            15: 7 pilgrim 5 -1 | pilgrim 0 -1 => now 6 = 128
            15: 8 pilgrim 99 -1 => now 5 = 792
            16: 8 pilgrim 5 -1 => on 7 1 0 = 10
            17: calendar 0 | 8 pilgrim 10 0 => well 7 = 2
            23: calendar 0 | 8 pilgrim 10 -1 => trust 7 = 0
            24: 2 calendar 0 | set 1 1 1 | 7 pilgrim 0 -1 | pilgrim 50 -1 => truth 1 = 1
            25: calendar 0 | 8 pilgrim 10 0 => cure 7 = 1
            28: calendar 0 | 7 pilgrim 99 -1 | pilgrim 20 0 => power 2 = 20
            35: 8 pilgrim 5 -1 | sheet 0 8 40 => lays 0 = 8
            35: 8 pilgrim 5 -1 | sheet 0 8 8 | write 0 7 99 | lays 0 => about 7 0 = 99
            36: 8 pilgrim 5 -1 | sheet 0 8 2 | book 0 7 => write 0 1 0 = 10
            37: 6 calendar 0 | 8 pilgrim 5 -1 | sheet 0 8 1 | write 0 0 5 => read 0 7 = 42
            41: 8 pilgrim 5 -1 | bathe 7 => count 3 = 1
            41: 8 pilgrim 5 -1 => count 2 = 8
            """);
    }

    /** "THE TAPE (bytes, at most 120)". */
    private static void fullTape() {
        String text = "power 7" + " ".repeat(113);
        Checks.due("29: 120 bytes", text.length(), 120);
        Told.table("29: 29 feed 32 4 | feed 32 3 => feed 32 1 = 120\n"
            + "29: 30 feed 32 4 => feed 32 1 = FULL\n"
            + "29: 30 feed 32 4 => feed 32 4 = FULL\n"
            + "41: 30 feed 32 4 => count 1 = 120\n"
            + "30: 30 feed 32 4 => wipe = 120\n"
            + "29: 30 feed 32 4 | wipe => feed 32 4 = 4\n"
            + "29: 30 feed 32 4 | spring => feed 32 4 = 4");
        Checks.due("31: a text of 120 bytes", new Told("tell " + text).ask("spring"), 1);
        Checks.due("31: and the number in it", afterText(text, "now 1"), 7);
        Checks.due("31: 119 blanks and one digit", new Told("tell power" + " ".repeat(114) + "8").ask("spring"), 1);
        Checks.due("31: its number", afterText("power" + " ".repeat(114) + "8", "now 1"), 8);
        Checks.due("31: 120 blanks", new Told("tell " + " ".repeat(120)).ask("spring"), -121);
        Checks.due("31: a word of 120 letters", new Told("tell " + "c".repeat(120)).ask("spring"), -1);
        Checks.due("31: a fault in the last byte", new Told("tell power 7" + " ".repeat(112) + "$").ask("spring"), -120);
        Checks.due("31: 120 signs", new Told("tell " + ";".repeat(120)).ask("spring"), -1);
        StringBuilder most = new StringBuilder("power  1");
        while (most.length() < 120) {
            most.append(";power1");
        }
        Checks.due("31: 120 bytes of items", most.length(), 120);
        Checks.due("31: 17 items", new Told("tell " + most).ask("spring"), 17);
    }

    private static long afterText(String text, String act) {
        return new Told("tell " + text + " | spring").ask(act);
    }

    /** A sheet of 40 numbers. */
    private static void fullSheets() {
        Told.table("""
            33: sheet 3 64 40 | write 3 39 7 => write 3 39 5 = 7
            33: sheet 3 64 40 => write 3 40 5 = BEYOND
            34: sheet 0 64 40 | sheet 1 64 40 => copy 0 0 1 0 40 = 40
            34: sheet 0 64 40 | sheet 1 64 40 => copy 0 0 1 0 41 = BEYOND
            34: sheet 0 64 40 | sheet 1 64 40 => copy 0 1 1 0 40 = BEYOND
            34: sheet 0 64 40 | sheet 1 64 40 => copy 0 0 1 1 40 = BEYOND
            34: sheet 0 64 40 | write 0 39 7 | sheet 1 64 40 | copy 0 0 1 0 40 => write 1 39 0 = 7
            36: pilgrim 5 -1 | law 0 2 | sheet 0 8 40 => book 0 0 = 40
            36: pilgrim 5 -1 | law 0 2 | sheet 0 8 40 | book 0 0 => write 0 39 0 = 44
            36: pilgrim 5 -1 | law 0 2 | sheet 0 8 40 | book 0 0 => write 0 0 0 = 5
            36: pilgrim 99 -1 | sheet 0 8 40 | book 0 0 => write 0 39 0 = 99
            37: calendar 0 | set 0 2 1 | pilgrim 5 -1 | law 0 2 | sheet 0 8 40 | book 0 0 => read 0 0 = 1
            37: calendar 0 | set 0 2 1 | pilgrim 5 -1 | law 0 2 | sheet 0 8 40 | book 0 0 | write 0 39 45 => read 0 0 = 0
            37: calendar 0 | set 0 2 1 | pilgrim 5 -1 | law 0 2 | sheet 0 8 40 | book 0 0 | write 0 0 6 => read 0 0 = 0
            """);
        // All four at once.
        Checks.due("32: the first of four is as it was", new Told("sheet 0 8 40 | write 0 39 1 | sheet 1 16 40 "
            + "| write 1 39 2 | sheet 2 64 40 | write 2 39 3 | sheet 3 8 40 | write 3 39 4").ask("write 0 39 0"), 1);
    }
}
