/**
 * A refused call: "Each act tells its findings in the order in which they are asked; one that answers a finding
 * changes nothing but status()". Told.table looks at all else for each row that is due a finding.
 */
public final class RefusedTest {
    // Much of everything, so that a change would show: 3 CALENDARS, 3 PILGRIMS, jugs, sheets, a text, an image.
    private static final String MUCH = "calendar 0 | calendar 5 | set 1 1 7 | set 1 2 9 | set 1 3 5 | set 1 4 3 "
        + "| pilgrim 50 0 | pilgrim 0 -1 | law 0 12 | law 1 1 | days 40 | sheet 0 8 3 | write 0 1 77 | sheet 1 16 2 "
        + "| write 1 0 300 | sheet 2 8 0 | image | calendar 4 | pilgrim 9 2 | mind 0 0 33 | bathe 2 | days 3 "
        + "| tell old;power 3";
    // As much as may be: 6 CALENDARS, 8 PILGRIMS, 120 bytes, a sheet of 40; TRUTH is 5.
    private static final String ALL = "3 calendar 0 | calendar 3 | calendar 4 | calendar 5 | law 1 5 | 4 pilgrim 60 0 "
        + "| 4 pilgrim 60 5 | days 30 | sheet 0 8 40 | write 0 39 7 | image | tell truth 3;power 9"
        + " | 26 feed 538976288 4";
    // On the last day, with a CALENDAR and a PILGRIM.
    private static final String LAST = "calendar 0 | pilgrim 0 0 | 249 days 400 | days 399";

    public static void main(String[] args) {
        theTexts();
        order();
        orderOfSheets();
        orderOnTheLastDay();
        withMuch();
        withAll();
        statusCounts();
        statusOfAll();
        onlyAnswers();
        Checks.end();
    }

    private static void theTexts() {
        Told.table("41: " + MUCH + " => count 1 = 11\n31: " + MUCH + " => spring = 2\n41: " + ALL + " => count 1 = 119\n"
            + "31: " + ALL + " => spring = 2");
    }

    /** Where two findings could be told, which is told. */
    private static void order() {
        Told.table("""
            2: 6 calendar 0 => calendar 5 = FULL
            2: 6 calendar 0 => calendar 6 = BEYOND
            2: 6 calendar 0 => calendar -1 = BEYOND
            6: calendar 1 => as 0 2 = KIND
            6: calendar 1 => as 0 6 = BEYOND
            6: calendar 1 => as 0 -1 = BEYOND
            6: calendar 1 => as 1 2 = BEYOND
            6: calendar 0 => as 0 1 = KIND
            6: calendar 2 => as 0 4 = KIND
            6: calendar 1 => as 0 5 = KIND
            6: calendar 4 => as 0 1 = KIND
            6: calendar 5 => as 0 2 = KIND
            9: 8 pilgrim 5 -1 => pilgrim 5 -1 = FULL
            9: 8 pilgrim 5 -1 => pilgrim 100 -1 = BEYOND
            9: 8 pilgrim 5 -1 => pilgrim -1 -1 = BEYOND
            9: 8 pilgrim 5 -1 => pilgrim 5 0 = BEYOND
            9: 8 pilgrim 5 -1 => pilgrim 5 -2 = BEYOND
            12: pilgrim 5 -1 => drink 0 0 = STATE
            12: pilgrim 5 -1 => drink 0 1 = STATE
            12: pilgrim 5 -1 => drink 1 0 = BEYOND
            12: pilgrim 5 -1 => drink -1 1 = BEYOND
            12: pilgrim 5 -1 => drink 0 2 = BEYOND
            12: pilgrim 5 -1 => drink 0 -1 = BEYOND
            17: pilgrim 5 -1 => well 0 = NONE
            17: pilgrim 5 -1 => well 1 = BEYOND
            18: calendar 0 | set 0 2 1 => next 0 = NONE
            18: calendar 0 | set 0 2 1 => next 1 = BEYOND
            21: calendar 0 | set 0 2 1 => meet 1 = NONE
            21: calendar 0 | set 0 2 1 => meet 0 = BEYOND
            21: calendar 0 | set 0 2 1 => meet 2 = BEYOND
            22: 2 calendar 0 => both 0 31 1 31 = NONE
            22: 2 calendar 0 => both 0 31 0 31 = BEYOND
            22: 2 calendar 0 => both 0 31 1 61 = BEYOND
            22: 2 calendar 0 => both 0 31 2 31 = BEYOND
            23: pilgrim 5 -1 => trust 0 = NONE
            23: pilgrim 5 -1 => trust 1 = BEYOND
            24: => truth 100 = NONE
            24: => truth 101 = BEYOND
            24: => truth 0 = BEYOND
            25: pilgrim 0 -1 => cure 0 = STATE
            25: pilgrim 0 -1 => cure 1 = BEYOND
            25: pilgrim 1 -1 => cure 0 = NONE
            26: calendar 0 | law 1 1 => kind 0 400 = STATE
            26: calendar 0 | law 1 1 => kind 0 401 = BEYOND
            26: calendar 0 | law 1 1 => kind 0 0 = BEYOND
            26: calendar 0 | law 1 1 => kind 1 1 = BEYOND
            27: calendar 0 | law 1 1 => begin 0 100 = STATE
            27: calendar 0 | law 1 1 => begin 0 101 = BEYOND
            27: calendar 0 | law 1 1 => begin 0 0 = BEYOND
            27: calendar 0 | law 1 1 => begin 1 1 = BEYOND
            29: 30 feed 5 4 => feed 5 4 = FULL
            29: 30 feed 5 4 => feed 5 5 = BEYOND
            29: 30 feed 5 4 => feed 5 0 = BEYOND
            29: 30 feed 5 4 => feed 5 -1 = BEYOND
            """);
    }

    private static void orderOfSheets() {
        Told.table("""
            32: sheet 0 8 3 => sheet 0 8 -1 = SIZE
            32: sheet 0 8 3 => sheet 4 8 -1 = BEYOND
            32: sheet 0 8 3 => sheet -1 0 -1 = BEYOND
            32: sheet 0 8 3 => sheet 0 9 -1 = BEYOND
            32: sheet 0 8 3 => sheet 0 0 -1 = SIZE
            32: sheet 0 8 3 => sheet 0 0 41 = BEYOND
            32: sheet 0 8 3 => sheet 4 8 41 = BEYOND
            33: sheet 0 8 3 => write 1 0 5 = MISSING
            33: sheet 0 8 3 => write 1 -1 5 = MISSING
            33: sheet 0 8 3 => write 1 40 5 = MISSING
            33: sheet 0 8 3 => write 4 -1 5 = BEYOND
            34: sheet 0 8 3 | sheet 1 16 3 => copy 4 0 2 0 1 = BEYOND
            34: sheet 0 8 3 | sheet 1 16 3 => copy 2 0 4 0 1 = BEYOND
            34: sheet 0 8 3 | sheet 1 16 3 => copy 2 0 -1 0 1 = BEYOND
            34: sheet 0 8 3 | sheet 1 16 3 => copy 0 0 2 0 1 = MISSING
            34: sheet 0 8 3 | sheet 1 16 3 => copy 2 0 1 0 1 = MISSING
            34: sheet 0 8 3 | sheet 1 16 3 => copy 2 -1 1 -1 -1 = MISSING
            34: sheet 0 8 3 | sheet 1 16 3 => copy 0 0 2 0 41 = MISSING
            34: sheet 0 8 3 | sheet 1 16 3 => copy 0 0 1 0 1 = KIND
            34: sheet 0 8 3 | sheet 1 16 3 => copy 0 -1 1 0 1 = KIND
            34: sheet 0 8 3 | sheet 1 16 3 => copy 0 0 1 -1 1 = KIND
            34: sheet 0 8 3 | sheet 1 16 3 => copy 0 0 1 0 -1 = KIND
            34: sheet 0 8 3 | sheet 1 16 3 => copy 1 0 0 0 9 = KIND
            34: sheet 0 8 3 | sheet 1 16 3 => copy 0 0 1 0 0 = KIND
            34: sheet 0 8 3 | sheet 1 64 3 => copy 0 0 1 0 1 = KIND
            34: sheet 0 16 3 | sheet 1 64 3 => copy 0 0 1 0 1 = KIND
            35: sheet 0 8 3 => lays 1 = MISSING
            35: sheet 0 8 3 => lays 4 = BEYOND
            36: sheet 0 8 3 | pilgrim 5 -1 => book 1 9 = MISSING
            36: sheet 0 8 3 | pilgrim 5 -1 => book 1 -1 = MISSING
            36: sheet 0 8 3 | pilgrim 5 -1 => book 4 9 = BEYOND
            36: sheet 0 8 3 | pilgrim 5 -1 => book 0 9 = BEYOND
            37: sheet 0 8 3 | pilgrim 5 -1 => read 1 9 = MISSING
            37: sheet 0 8 3 | pilgrim 5 -1 => read 1 -1 = MISSING
            37: sheet 0 8 3 | pilgrim 5 -1 => read 4 9 = BEYOND
            37: sheet 0 8 3 | pilgrim 5 -1 => read 0 9 = BEYOND
            """);
    }

    private static void orderOnTheLastDay() {
        String[] rows = {"14: days 1 = STATE", "14: days 400 = STATE", "14: days 0 = BEYOND", "14: days -1 = BEYOND",
            "14: days 401 = BEYOND", "14: days MIN = BEYOND", "14: days MAX = BEYOND", "16: on 0 401 0 = BEYOND",
            "18: next 1 = BEYOND", "19: agree 0 0 1 = BEYOND", "25: cure 0 = STATE", "7: date 0 100000 0 = BEYOND",
            "2: calendar 6 = BEYOND", "9: pilgrim 5 1 = BEYOND", "13: bathe 1 = BEYOND"};
        ask(LAST, rows);
    }

    private static void ask(String before, String... rows) {
        for (String row : rows) {
            int colon = row.indexOf(": ");
            Told.table(row.substring(0, colon + 2) + before + " => " + row.substring(colon + 2));
        }
    }

    /** Every finding of every act that can be told there, and nothing else changes. */
    private static void withMuch() {
        ask(MUCH, "2: calendar 6 = BEYOND", "3: of 3 0 = BEYOND", "3: of 0 5 = BEYOND", "4: set 3 1 5 = BEYOND",
            "4: set 0 0 5 = BEYOND", "4: set 1 1 100 = BEYOND", "4: set 1 2 0 = BEYOND", "4: set 1 2 61 = BEYOND",
            "4: set 1 3 100 = BEYOND", "4: set 1 4 10000 = BEYOND", "5: turn 3 1 = BEYOND", "5: turn 1 6 = BEYOND",
            "6: as 3 0 = BEYOND", "6: as 1 6 = BEYOND", "6: as 1 2 = KIND", "7: date 3 0 0 = BEYOND",
            "7: date 0 100000 0 = BEYOND", "7: date 0 0 4 = BEYOND", "8: law 0 0 = BEYOND", "8: law 0 51 = BEYOND",
            "8: law 1 6 = BEYOND", "8: law 2 5 = BEYOND", "9: pilgrim 100 0 = BEYOND", "9: pilgrim 5 3 = BEYOND",
            "10: about 3 0 = BEYOND", "10: about 0 3 = BEYOND", "11: mind 3 0 5 = BEYOND", "11: mind 0 0 100 = BEYOND",
            "11: mind 0 1 3 = BEYOND", "11: mind 0 2 5 = BEYOND", "12: drink 3 0 = BEYOND", "12: drink 0 2 = BEYOND",
            "12: drink 0 1 = STATE", "13: bathe 3 = BEYOND", "14: days 0 = BEYOND", "14: days 401 = BEYOND",
            "15: now 7 = BEYOND", "16: on 3 5 0 = BEYOND", "16: on 0 401 0 = BEYOND", "16: on 0 5 2 = BEYOND",
            "17: well 3 = BEYOND", "18: next 3 = BEYOND", "19: agree 0 3 5 = BEYOND", "19: agree 0 1 401 = BEYOND",
            "20: row 0 3 5 = BEYOND", "20: row 0 1 401 = BEYOND", "21: meet 8 = BEYOND", "21: meet 0 = BEYOND",
            "22: both 0 61 1 1 = BEYOND", "22: both 0 31 1 1 = NONE", "23: trust 3 = BEYOND", "24: truth 101 = BEYOND",
            "25: cure 3 = BEYOND", "25: cure 1 = STATE", "26: kind 3 5 = BEYOND", "26: kind 0 401 = BEYOND",
            "27: begin 3 5 = BEYOND", "27: begin 0 101 = BEYOND", "28: power 101 = BEYOND", "29: feed 97 5 = BEYOND",
            "32: sheet 4 8 3 = BEYOND", "32: sheet 0 9 3 = BEYOND", "32: sheet 0 16 -1 = SIZE", "32: sheet 0 16 41 = BEYOND",
            "32: sheet 0 0 -1 = SIZE", "32: sheet 0 0 41 = BEYOND", "33: write 4 0 5 = BEYOND", "33: write 3 0 5 = MISSING",
            "33: write 0 3 5 = BEYOND", "33: write 2 0 5 = BEYOND", "34: copy 0 0 4 0 1 = BEYOND", "34: copy 0 0 3 0 1 = MISSING",
            "34: copy 0 0 1 0 1 = KIND", "34: copy 0 1 0 0 3 = BEYOND", "34: copy 0 0 2 0 1 = BEYOND",
            "35: lays 4 = BEYOND", "35: lays 3 = MISSING", "36: book 4 0 = BEYOND", "36: book 3 0 = MISSING",
            "36: book 0 3 = BEYOND", "37: read 4 0 = BEYOND", "37: read 3 0 = MISSING", "37: read 0 3 = BEYOND",
            "41: count 4 = BEYOND", "42: status 7 = BEYOND", "42: status -2 = BEYOND");
        ask("law 1 5 | " + MUCH.replace("law 1 1", "law 1 5"), "26: kind 0 5 = STATE", "27: begin 0 5 = STATE",
            "17: well 0 = NONE", "23: trust 0 = NONE", "25: cure 0 = NONE", "25: cure 1 = STATE");
        ask(MUCH + " | tear", "39: undo = NONE");
    }

    private static void withAll() {
        ask(ALL, "2: calendar 5 = FULL", "2: calendar 6 = BEYOND", "9: pilgrim 5 5 = FULL", "9: pilgrim 5 6 = BEYOND",
            "29: feed 97 2 = FULL", "29: feed 97 4 = FULL", "29: feed 97 0 = BEYOND", "21: meet 64 = BEYOND",
            "21: meet 1 = NONE", "33: write 0 40 5 = BEYOND", "34: copy 0 0 0 1 40 = BEYOND", "13: bathe 8 = BEYOND",
            "11: mind 7 1 6 = BEYOND", "3: of 6 0 = BEYOND", "10: about 8 0 = BEYOND");
    }

    /** "How many acts answered a finding ever (undo() takes none back)"; "BEYOND (counted from then on): another one". */
    private static void statusCounts() {
        Told.table("""
            42: image | 3 calendar 9 | undo => status -1 = 3
            42: image | 3 calendar 9 | undo => status 0 = 3
            42: 3 calendar 9 | image | tear => status 0 = 3
            42: undo | undo | image | undo => status 3 = 2
            42: tell old; | spring => status -1 = 0
            42: tell $ | spring => status -1 = 0
            42: status 9 => status 0 = 1
            42: status 9 => status -1 = 1
            42: 5 status 9 | 4 status -9 => status 0 = 9
            42: status -1 | status 0 | status 6 => status -1 = 0
            42: 200 calendar 9 | 200 undo => status -1 = 400
            42: 200 calendar 9 | 200 undo => status 0 = 200
            42: 200 calendar 9 | 200 undo => status 3 = 200
            42: 400 write 0 0 0 => status 5 = 400
            """);
    }

    private static void statusOfAll() {
        String some = "calendar 9 | 6 calendar 0 | 2 calendar 0 | 3 as 0 1 | 4 undo | pilgrim 0 -1 | 5 cure 0 | 6 lays 0 "
            + "| 7 sheet 0 8 -1";
        for (int which = 0; which < 7; which++) {
            Told.table("42: " + some + " => status " + which + " = " + (which + 1));
        }
        Told.table("42: " + some + " => status -1 = 28");
    }

    /** "ON: n DAYS go on with all as it is; nothing changes": Told.table looks at all for acts that only answer. */
    private static void onlyAnswers() {
        String two = "calendar 2 | calendar 0 | set 0 2 2 | set 0 3 1 | set 0 4 3 | set 1 2 2 | pilgrim 50 0 | pilgrim 50 1 "
            + "| pilgrim 0 -1 | sheet 0 8 4 | write 0 0 50 | write 0 1 50 | write 0 2 40 | write 0 3 40 | image | tell old";
        // By both the odd days are HOLY, by 0 from day 3 on the even ones.
        ask(two, "3: of 0 3 = 1", "6: as 0 0 = 0", "7: date 0 3 0 = 1", "10: about 0 0 = 50", "15: now 5 = 100",
            "16: on 0 400 0 = 0", "16: on 0 400 1 = 5", "16: on 1 3 0 = 40", "16: on 1 4 0 = 45", "17: well 0 = 11",
            "18: next 0 = 1", "19: agree 0 1 400 = 3", "20: row 0 1 400 = 3", "21: meet 1 = 4", "21: meet 2 = 3",
            "22: both 0 1 1 2 = 3", "23: trust 1 = 0", "24: truth 4 = 1", "25: cure 1 = 10", "26: kind 1 400 = 2",
            "27: begin 1 100 = 1", "28: power 2 = 50", "37: read 0 0 = 4", "37: read 0 1 = 4", "37: read 0 2 = 0", "41: count 3 = 0",
            "42: status -1 = 0");
    }
}
