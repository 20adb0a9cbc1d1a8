/**
 * Too small and too large: of each span that the document gives with its ends, the least that may be, the greatest,
 * the one below and the one above; and, of what is held to an end, the step that would go over it.
 */
public final class SpansTest {
    public static void main(String[] args) {
        kindsAndWhats();
        fieldsOfCalendars();
        daysOfDates();
        runsAtTheEnds();
        laws();
        pilgrims();
        illIsHeld();
        bathedIsHeld();
        jugsAreHeld();
        days();
        lastDay();
        farDays();
        on();
        well();
        next();
        agreeAndRow();
        meet();
        both();
        trustAndCure();
        truth();
        kind();
        begin();
        power();
        feed();
        sheets();
        write();
        copy();
        laysBookRead();
        countAndStatus();
        Checks.end();
    }

    /** "KINDS: 0 COUNT .. 5 MONK"; "what 0 KIND, 1 BEGIN, 2 LENGTH, 3 LEFT, 4 REFORM"; CALENDARS that there are. */
    private static void kindsAndWhats() {
        Told.table("""
            2: => calendar -1 = BEYOND
            2: => calendar 0 = 0
            2: => calendar 5 = 0
            2: calendar 5 => of 0 0 = 5
            2: => calendar 6 = BEYOND
            3: calendar 3 => of 0 -1 = BEYOND
            3: calendar 3 => of 0 0 = 3
            3: calendar 3 => of 0 4 = 50
            3: calendar 3 => of 0 5 = BEYOND
            3: 2 calendar 3 => of -1 0 = BEYOND
            3: 2 calendar 3 => of 0 2 = 30
            3: 2 calendar 3 => of 1 3 = 11
            3: 2 calendar 3 => of 2 0 = BEYOND
            5: 2 calendar 3 => turn 0 -1 = BEYOND
            5: 2 calendar 3 => turn 0 0 = 3
            5: 2 calendar 3 => turn 1 5 = 3
            5: 2 calendar 3 | turn 1 5 => of 1 0 = 5
            5: 2 calendar 3 | turn 1 5 => of 0 0 = 3
            5: 2 calendar 3 => turn 0 6 = BEYOND
            5: 2 calendar 3 => turn -1 0 = BEYOND
            5: 2 calendar 3 => turn 2 0 = BEYOND
            6: 2 calendar 5 => as 0 -1 = BEYOND
            6: 2 calendar 5 | set 0 1 8 => as 0 0 = 8
            6: 2 calendar 5 | set 1 1 9 => as 1 5 = 9
            6: 2 calendar 5 => as 0 6 = BEYOND
            6: 2 calendar 5 => as -1 0 = BEYOND
            6: 2 calendar 5 => as 2 0 = BEYOND
            """);
    }

    /** "BEGIN (0 to 99; 0 at first), LENGTH (1 to 60 ..; 30 ..), LEFT (0 to 99; 11), REFORM (0 to 9999; 50)". */
    private static void fieldsOfCalendars() {
        int[] least = {0, 0, 1, 0, 0};
        int[] first = {0, 0, 30, 11, 50};
        int[] most = {0, 99, 60, 99, 9999};
        for (int what = 1; what <= 4; what++) {
            String set = "set 1 " + what + " ";
            String of = "of 1 " + what;
            String rows = "3: 2 calendar 2 => " + of + " = " + first[what]
                + "\n4: 2 calendar 2 => " + set + (least[what] - 1) + " = BEYOND"
                + "\n4: 2 calendar 2 => " + set + least[what] + " = " + first[what]
                + "\n4: 2 calendar 2 | " + set + least[what] + " => " + of + " = " + least[what]
                + "\n4: 2 calendar 2 | " + set + least[what] + " => " + set + (least[what] - 1) + " = BEYOND"
                + "\n4: 2 calendar 2 | " + set + least[what] + " => " + set + most[what] + " = " + least[what]
                + "\n4: 2 calendar 2 | " + set + most[what] + " => " + of + " = " + most[what]
                + "\n4: 2 calendar 2 | " + set + most[what] + " => " + set + (most[what] + 1) + " = BEYOND"
                + "\n4: 2 calendar 2 | " + set + most[what] + " => of 0 " + what + " = " + first[what];
            Told.table(rows);
        }
        Told.table("""
            4: 2 calendar 2 => set 0 -1 5 = BEYOND
            4: 2 calendar 2 => set 0 0 5 = BEYOND
            4: 2 calendar 2 => set 0 5 5 = BEYOND
            4: 2 calendar 2 => set -1 1 5 = BEYOND
            4: 2 calendar 2 => set 2 1 5 = BEYOND
            """);
    }

    /** "Of a day (0 to 99999) by a CALENDAR: what 0 DATE .. 3 RUNS". */
    private static void daysOfDates() {
        Told.table("""
            7: 2 calendar 0 => date 0 -1 3 = BEYOND
            7: 2 calendar 0 => date 0 0 3 = 0
            7: 2 calendar 0 => date 0 99999 3 = 99999
            7: 2 calendar 0 => date 0 100000 3 = BEYOND
            7: 2 calendar 0 => date 0 31 -1 = BEYOND
            7: 2 calendar 0 => date 0 31 0 = 2
            7: 2 calendar 0 => date 0 31 1 = 1
            7: 2 calendar 0 => date 0 31 2 = 1
            7: 2 calendar 0 => date 1 31 3 = 31
            7: 2 calendar 0 => date 0 31 4 = BEYOND
            7: 2 calendar 0 => date -1 31 0 = BEYOND
            7: 2 calendar 0 => date 2 31 0 = BEYOND
            """);
    }

    /** RUNS, DATE and HOLY with the least and the greatest of all, and on both sides of each step. */
    private static void runsAtTheEnds() {
        Told.table("""
            7: calendar 0 | set 0 1 99 | set 0 2 60 => date 0 99999 3 = 100098
            7: calendar 0 | set 0 1 99 | set 0 2 60 => date 0 99999 0 = 19
            7: calendar 0 | set 0 1 99 | set 0 2 60 => date 0 99999 1 = 1668
            7: calendar 0 | set 0 2 60 => date 0 59 0 = 60
            7: calendar 0 | set 0 2 60 => date 0 59 2 = 1
            7: calendar 0 | set 0 2 60 => date 0 60 0 = 1
            7: calendar 0 | set 0 2 1 => date 0 99999 0 = 1
            7: calendar 0 | set 0 2 1 => date 0 99999 1 = 99999
            7: calendar 0 | set 0 2 1 => date 0 99999 2 = 0
            7: calendar 2 | set 0 4 0 => date 0 0 3 = 11
            7: calendar 2 | set 0 4 1 => date 0 0 3 = 0
            7: calendar 2 | set 0 4 1 => date 0 1 3 = 12
            7: calendar 2 | set 0 1 99 | set 0 3 99 | set 0 4 9999 => date 0 9998 3 = 10097
            7: calendar 2 | set 0 1 99 | set 0 3 99 | set 0 4 9999 => date 0 9999 3 = 10197
            7: calendar 2 | set 0 3 0 => date 0 50 3 = 50
            7: calendar 3 => date 0 6 3 = 6
            7: calendar 3 => date 0 7 3 = 8
            7: calendar 3 => date 0 13 3 = 14
            7: calendar 3 => date 0 14 3 = 16
            7: calendar 3 => date 0 99999 3 = 114284
            7: calendar 4 | set 0 4 9999 => date 0 119 3 = 119
            7: calendar 4 | set 0 4 9999 => date 0 120 3 = 121
            7: calendar 4 | set 0 4 9999 => date 0 239 3 = 240
            7: calendar 4 | set 0 4 9999 => date 0 240 3 = 242
            7: calendar 4 => date 0 99999 3 = 100843
            7: calendar 4 | set 0 1 99 | set 0 2 1 | set 0 3 99 => date 0 99999 3 = 125246
            7: calendar 4 | set 0 1 99 | set 0 2 1 | set 0 3 99 => date 0 99999 2 = 1
            7: calendar 5 => date 0 1 3 = 1
            7: calendar 5 => date 0 2 3 = 1
            7: calendar 5 => date 0 8 3 = 7
            7: calendar 5 => date 0 9 3 = 7
            7: calendar 5 => date 0 99999 3 = 85713
            7: calendar 5 => date 0 99999 2 = 1
            7: calendar 5 | set 0 2 1 => date 0 99999 1 = 85713
            """);
    }

    /** "POWER (1 to 50; 10 at first). TRUTH: .. (0 at first; whether there is one or not)"; "TRUTH (1; 0 to 5)". */
    private static void laws() {
        Told.table("""
            8: => law 0 0 = BEYOND
            8: => law 0 1 = 10
            8: law 0 1 => now 1 = 1
            8: => law 0 50 = 10
            8: law 0 50 => now 1 = 50
            8: => law 0 51 = BEYOND
            8: => law 1 -1 = BEYOND
            8: law 1 3 => law 1 0 = 3
            8: => law 1 5 = 0
            8: law 1 5 => now 2 = 5
            8: => law 1 6 = BEYOND
            8: => law -1 1 = BEYOND
            8: => law 2 1 = BEYOND
            """);
    }

    /** "ILL (0 to 99), what it TRUSTS (the number of a CALENDAR; -1: it bathes every day)". */
    private static void pilgrims() {
        Told.table("""
            9: 2 calendar 0 => pilgrim -1 0 = BEYOND
            9: 2 calendar 0 => pilgrim 0 0 = 0
            9: 2 calendar 0 => pilgrim 99 0 = 0
            9: 2 calendar 0 => pilgrim 100 0 = BEYOND
            9: 2 calendar 0 => pilgrim 5 -2 = BEYOND
            9: 2 calendar 0 => pilgrim 5 -1 = 0
            9: 2 calendar 0 => pilgrim 5 1 = 0
            9: 2 calendar 0 => pilgrim 5 2 = BEYOND
            10: calendar 0 | 2 pilgrim 99 0 => about 0 -1 = BEYOND
            10: calendar 0 | 2 pilgrim 99 0 => about 0 0 = 99
            10: calendar 0 | 2 pilgrim 99 -1 => about 1 1 = -1
            10: calendar 0 | 2 pilgrim 99 0 => about 0 2 = 0
            10: calendar 0 | 2 pilgrim 99 0 => about 0 3 = BEYOND
            10: calendar 0 | 2 pilgrim 99 0 => about -1 0 = BEYOND
            10: calendar 0 | 2 pilgrim 99 0 => about 2 0 = BEYOND
            11: 2 calendar 0 | 2 pilgrim 50 0 => mind 0 0 -1 = BEYOND
            11: 2 calendar 0 | 2 pilgrim 50 0 => mind 0 0 0 = 50
            11: 2 calendar 0 | 2 pilgrim 50 0 | mind 1 0 0 => about 1 0 = 0
            11: 2 calendar 0 | 2 pilgrim 50 0 | mind 1 0 99 => about 1 0 = 99
            11: 2 calendar 0 | 2 pilgrim 50 0 => mind 0 0 100 = BEYOND
            11: 2 calendar 0 | 2 pilgrim 50 0 => mind 0 1 -2 = BEYOND
            11: 2 calendar 0 | 2 pilgrim 50 0 => mind 0 1 -1 = 0
            11: 2 calendar 0 | 2 pilgrim 50 0 | mind 0 1 -1 => about 0 1 = -1
            11: 2 calendar 0 | 2 pilgrim 50 0 | mind 0 1 1 => about 0 1 = 1
            11: 2 calendar 0 | 2 pilgrim 50 0 => mind 0 1 2 = BEYOND
            11: 2 calendar 0 | 2 pilgrim 50 0 => mind 0 -1 0 = BEYOND
            11: 2 calendar 0 | 2 pilgrim 50 0 => mind 0 2 0 = BEYOND
            11: 2 calendar 0 | 2 pilgrim 50 0 => mind -1 0 0 = BEYOND
            11: 2 calendar 0 | 2 pilgrim 50 0 => mind 2 0 0 = BEYOND
            """);
    }

    /** "ILL is POWER less (0 at least), else half of POWER more (99 at most)"; "Quotients are cut". */
    private static void illIsHeld() {
        // With BEGIN 1 day 0 has DATE 2, and is HOLY; without a CALENDAR no day is.
        Told.table("""
            13: calendar 0 | set 0 1 1 | pilgrim 11 -1 => bathe 0 = 1
            13: calendar 0 | set 0 1 1 | pilgrim 10 -1 => bathe 0 = 0
            13: calendar 0 | set 0 1 1 | pilgrim 9 -1 => bathe 0 = 0
            13: calendar 0 | set 0 1 1 | pilgrim 0 -1 => bathe 0 = 0
            13: calendar 0 | set 0 1 1 | law 0 50 | pilgrim 99 -1 => bathe 0 = 49
            13: calendar 0 | set 0 1 1 | law 0 1 | pilgrim 99 -1 => bathe 0 = 98
            13: pilgrim 93 -1 => bathe 0 = 98
            13: pilgrim 94 -1 => bathe 0 = 99
            13: pilgrim 95 -1 => bathe 0 = 99
            13: pilgrim 99 -1 => bathe 0 = 99
            13: pilgrim 0 -1 => bathe 0 = 5
            13: law 0 1 | pilgrim 5 -1 => bathe 0 = 5
            13: law 0 2 | pilgrim 5 -1 => bathe 0 = 6
            13: law 0 49 | pilgrim 5 -1 => bathe 0 = 29
            13: law 0 50 | pilgrim 5 -1 => bathe 0 = 30
            13: 2 pilgrim 5 -1 => bathe 1 = 10
            13: 2 pilgrim 5 -1 => bathe -1 = BEYOND
            13: 2 pilgrim 5 -1 => bathe 2 = BEYOND
            14: calendar 0 | set 0 1 1 | pilgrim 11 -1 | days 1 => about 0 0 = 1
            14: calendar 0 | set 0 1 1 | pilgrim 9 -1 | days 1 => about 0 0 = 0
            14: pilgrim 94 -1 | days 1 => about 0 0 = 99
            14: pilgrim 95 -1 | days 1 => about 0 0 = 99
            14: pilgrim 1 -1 | days 1 => about 0 0 = 6
            14: pilgrim 0 -1 | days 1 => about 0 0 = 0
            14: pilgrim 0 -1 | days 1 => about 0 2 = 0
            16: calendar 0 | set 0 1 1 | pilgrim 11 -1 => on 0 1 0 = 1
            16: calendar 0 | set 0 1 1 | pilgrim 9 -1 => on 0 1 0 = 0
            16: pilgrim 95 -1 => on 0 1 0 = 99
            16: pilgrim 0 -1 => on 0 400 1 = 0
            """);
        // On days 0 to 2 a BAD jug is drawn; LEAP with months of one day makes every day HOLY, so a GOOD one.
        Told.table("""
            12: days 3 | pilgrim 94 -1 => drink 0 0 = 99
            12: days 3 | pilgrim 95 -1 => drink 0 0 = 99
            12: days 3 | law 0 1 | pilgrim 95 -1 => drink 0 0 = 95
            12: calendar 4 | set 0 2 1 | days 3 | pilgrim 11 -1 => drink 0 1 = 1
            12: calendar 4 | set 0 2 1 | days 3 | pilgrim 10 -1 => drink 0 1 = 0
            12: calendar 4 | set 0 2 1 | days 3 | pilgrim 9 -1 => drink 0 1 = 0
            12: calendar 4 | set 0 2 1 | days 3 | pilgrim 0 -1 => drink 0 1 = 0
            12: days 3 | pilgrim 5 -1 => drink 0 -1 = BEYOND
            12: days 3 | pilgrim 5 -1 => drink 0 2 = BEYOND
            12: days 3 | pilgrim 5 -1 => drink -1 0 = BEYOND
            12: days 3 | pilgrim 5 -1 => drink 1 0 = BEYOND
            """);
    }

    /** "BATHED (how often; 0 at first, held to 9999)". */
    private static void bathedIsHeld() {
        Told.table("""
            13: pilgrim 99 -1 | 24 days 400 | days 397 | bathe 0 => about 0 2 = 9998
            13: pilgrim 99 -1 | 24 days 400 | days 398 | bathe 0 => about 0 2 = 9999
            13: pilgrim 99 -1 | 24 days 400 | days 398 | 2 bathe 0 => about 0 2 = 9999
            14: pilgrim 99 -1 | 24 days 400 | days 398 => about 0 2 = 9998
            14: pilgrim 99 -1 | 24 days 400 | days 399 => about 0 2 = 9999
            14: pilgrim 99 -1 | 25 days 400 => about 0 2 = 9999
            16: pilgrim 99 -1 | 24 days 400 => on 0 398 1 = 9998
            16: pilgrim 99 -1 | 24 days 400 => on 0 399 1 = 9999
            16: pilgrim 99 -1 | 24 days 400 => on 0 400 1 = 9999
            41: 2 pilgrim 99 -1 | 24 days 400 | days 398 | bathe 0 => count 3 = 19997
            41: 8 pilgrim 99 -1 | 25 days 400 => count 3 = 79992
            """);
    }

    /** "JUGS: GOOD ones and BAD ones (0 to 99 each; 0 at first)"; "(99 at most of each)"; on days whose rest by 7 is 2. */
    private static void jugsAreHeld() {
        // The jug 98 is drawn on day 2 + 97 * 7 = 681, the next on 688, and what would be the hundredth on 695.
        Told.table("""
            14: days 2 => now 4 = 0
            14: days 3 => now 4 = 1
            14: days 9 => now 4 = 1
            14: days 10 => now 4 = 2
            14: days 400 | days 288 => now 4 = 98
            14: days 400 | days 289 => now 4 = 99
            14: days 400 | days 296 => now 4 = 99
            14: days 400 | days 296 => now 3 = 0
            14: calendar 4 | set 0 2 1 | days 400 | days 288 => now 3 = 98
            14: calendar 4 | set 0 2 1 | days 400 | days 289 => now 3 = 99
            14: calendar 4 | set 0 2 1 | days 400 | days 296 => now 3 = 99
            14: calendar 4 | set 0 2 1 | days 400 | days 296 => now 4 = 0
            14: calendar 4 | set 0 2 1 | 2 days 400 | law 1 1 | 2 days 400 => now 4 = 99
            14: calendar 4 | set 0 2 1 | 2 days 400 | law 1 1 | 2 days 400 => now 3 = 99
            12: 2 days 400 | pilgrim 5 -1 | drink 0 0 => now 4 = 98
            12: 2 days 400 | pilgrim 5 -1 | 99 drink 0 0 => now 4 = 0
            12: 2 days 400 | pilgrim 5 -1 | 98 drink 0 0 => drink 0 0 = 99
            12: 2 days 400 | pilgrim 5 -1 | 99 drink 0 0 => drink 0 0 = STATE
            12: calendar 4 | set 0 2 1 | 2 days 400 | pilgrim 5 -1 | 98 drink 0 1 => drink 0 1 = 0
            12: calendar 4 | set 0 2 1 | 2 days 400 | pilgrim 5 -1 | 99 drink 0 1 => drink 0 1 = STATE
            """);
    }

    /** "n DAYS go (1 to 400)"; "What 0 DAY .. 6". */
    private static void days() {
        Told.table("""
            14: pilgrim 0 -1 => days -1 = BEYOND
            14: pilgrim 0 -1 => days 0 = BEYOND
            14: pilgrim 0 -1 => days 1 = 1
            14: pilgrim 0 -1 | days 1 => now 0 = 1
            14: pilgrim 0 -1 => days 400 = 1
            14: pilgrim 0 -1 | days 400 => now 0 = 400
            14: pilgrim 0 -1 => days 401 = BEYOND
            15: pilgrim 3 -1 => now -1 = BEYOND
            15: pilgrim 3 -1 => now 0 = 0
            15: pilgrim 3 -1 => now 5 = 3
            15: pilgrim 0 -1 => now 6 = 1
            15: pilgrim 3 -1 => now 7 = BEYOND
            """);
    }

    /** "DAY: 0 at first (99999 at most)"; "STATE: DAY would be above 99999". */
    private static void lastDay() {
        Told.table("""
            14: 249 days 400 => days 398 = 0
            14: 249 days 400 => days 399 = 0
            14: 249 days 400 => days 400 = STATE
            14: 249 days 400 | days 398 => days 1 = 0
            14: 249 days 400 | days 398 => days 2 = STATE
            14: 249 days 400 | days 399 => now 0 = 99999
            14: 249 days 400 | days 399 => days 1 = STATE
            14: 249 days 400 | days 399 => days 400 = STATE
            14: 248 days 400 | days 399 => days 400 = 0
            """);
        // What looks ahead goes on with all as it is, behind the last day too: 99999 is HOLY, 100000 is not.
        Told.table("""
            16: calendar 0 | pilgrim 99 0 | mind 0 0 0 | 249 days 400 | days 399 | mind 0 0 99 => on 0 1 0 = 89
            16: calendar 0 | pilgrim 99 0 | mind 0 0 0 | 249 days 400 | days 399 | mind 0 0 99 => on 0 3 0 = 79
            17: calendar 0 | pilgrim 0 0 | 249 days 400 | days 399 | mind 0 0 99 => well 0 = 19
            18: calendar 0 | set 0 1 1 | 249 days 400 | days 399 => next 0 = 100000
            19: 2 calendar 0 | 249 days 400 | days 399 => agree 0 1 400 = 400
            20: 2 calendar 0 | 249 days 400 | days 399 => row 0 1 400 = 400
            21: 2 calendar 0 | set 0 1 1 | set 1 1 1 | 249 days 400 | days 399 => meet 3 = 100000
            22: 2 calendar 0 | 249 days 400 | days 399 => both 0 9 1 9 = 100028
            23: 2 calendar 0 | pilgrim 0 -1 | 249 days 400 | days 399 | mind 0 0 99 => trust 0 = 0
            24: 2 calendar 0 | pilgrim 0 -1 | 249 days 400 | days 399 | mind 0 0 99 => truth 100 = 0
            25: calendar 0 | pilgrim 0 -1 | 249 days 400 | days 399 | mind 0 0 99 => cure 0 = 100017
            26: 2 calendar 0 | 249 days 400 | days 399 => kind 1 400 = 0
            27: 2 calendar 0 | 249 days 400 | days 399 => begin 1 100 = 0
            28: calendar 0 | pilgrim 0 0 | 249 days 400 | days 399 | mind 0 0 99 => power 100 = 2
            36: calendar 0 | pilgrim 0 0 | sheet 0 8 40 | 249 days 400 | days 399 | mind 0 0 99 => book 0 0 = 40
            36: calendar 0 | pilgrim 0 0 | sheet 0 8 4 | 249 days 400 | days 399 | mind 0 0 99 | book 0 0 => write 0 3 0 = 79
            37: calendar 0 | pilgrim 0 0 | sheet 0 8 4 | 249 days 400 | days 399 | mind 0 0 99 | book 0 0 => read 0 0 = 1
            """);
    }

    /** On the last day, with months of odd lengths and of every KIND: far days are not as near ones are. */
    private static void farDays() {
        String far = " | 249 days 400 | days 399 => ";
        String monk = "calendar 5 | set 0 2 3 | calendar 0 | set 1 2 3";
        Told.table("18: calendar 0 | set 0 2 7" + far + "next 0 = 100000\n"
            + "18: calendar 3" + far + "next 0 = 99999\n"
            + "18: calendar 3 | set 0 2 7" + far + "next 0 = 100000\n"
            + "18: calendar 4" + far + "next 0 = 99999\n"
            + "18: calendar 4 | set 0 2 3" + far + "next 0 = 100000\n"
            + "18: " + monk + far + "next 0 = 100000\n"
            + "26: " + monk + far + "kind 1 7 = 0\n"
            + "26: " + monk + far + "kind 1 8 = 5");
        // Months of three days make 100000 and 100003 HOLY, months of two days 99999, 100001 and 100003.
        String two = "2 calendar 0 | set 0 2 3 | set 1 2 2 | pilgrim 0 0";
        String ill = far.replace("=>", "| mind 0 0 20 =>");
        Told.table("19: " + two + far + "agree 0 1 2 = 0\n"
            + "19: " + two + far + "agree 0 1 6 = 3\n"
            + "20: " + two + far + "row 1 0 6 = 3\n"
            + "21: " + two + far + "meet 1 = 100000\n"
            + "21: " + two + far + "meet 2 = 99999\n"
            + "21: " + two + far + "meet 3 = 100003\n"
            + "22: " + two + far + "both 0 2 1 1 = 100000\n"
            + "16: " + two + ill + "on 0 1 0 = 20\n"
            + "16: " + two + ill + "on 0 2 0 = 10\n"
            + "17: " + two + ill + "well 0 = 5\n"
            + "23: " + two + ill + "trust 0 = 0\n"
            + "25: " + two + ill + "cure 0 = 100003\n"
            + "28: " + two + ill + "power 2 = 20\n"
            + "28: " + two + ill + "power 5 = 10");
    }

    /** "ILL (what 0), BATHED (1) of a PILGRIM ON n DAYS (0 to 400)". */
    private static void on() {
        Told.table("""
            16: 2 pilgrim 5 -1 => on 0 -1 1 = BEYOND
            16: 2 pilgrim 5 -1 => on 0 0 1 = 0
            16: 2 pilgrim 5 -1 => on 0 0 0 = 5
            16: 2 pilgrim 5 -1 => on 0 1 1 = 1
            16: 2 pilgrim 5 -1 => on 1 399 1 = 399
            16: 2 pilgrim 5 -1 => on 1 400 1 = 400
            16: 2 pilgrim 5 -1 => on 0 400 0 = 99
            16: 2 pilgrim 5 -1 => on 0 401 1 = BEYOND
            16: 2 pilgrim 5 -1 => on 0 5 -1 = BEYOND
            16: 2 pilgrim 5 -1 => on 0 5 2 = BEYOND
            16: 2 pilgrim 5 -1 => on -1 5 0 = BEYOND
            16: 2 pilgrim 5 -1 => on 2 5 0 = BEYOND
            """);
    }

    /** "In how many DAYS (0 to 400) ON a PILGRIM is WELL first". */
    private static void well() {
        // By months of two days every other day is HOLY, and LEFT 1 changes which from REFORM on. 0 is true, 1 is
        // trusted, and both are HOLY together for the first time on the day REFORM of 1; POWER 1 does no harm.
        String even = "2 calendar 2 | set 0 2 2 | set 1 2 2 | set 1 3 1 | set 0 4 9999 | law 0 1 | pilgrim 1 1";
        Told.table("17: " + even + " | set 0 1 1 | set 1 4 398 => well 0 = 399"
            + "\n17: " + even + " | set 1 1 1 | set 1 4 399 => well 0 = 400"
            + "\n17: " + even + " | set 0 1 1 | set 1 4 400 => well 0 = NONE"
            + "\n17: " + even + " | set 0 1 1 | set 1 4 400 | days 1 => well 0 = 400"
            + "\n16: " + even + " | set 1 1 1 | set 1 4 399 => on 0 399 0 = 1"
            + "\n16: " + even + " | set 1 1 1 | set 1 4 399 => on 0 400 0 = 0");
        Told.table("""
            17: 2 pilgrim 0 -1 => well 0 = 0
            17: 2 pilgrim 0 -1 => well 1 = 0
            17: 2 pilgrim 1 -1 => well 1 = NONE
            17: 2 pilgrim 0 -1 => well -1 = BEYOND
            17: 2 pilgrim 0 -1 => well 2 = BEYOND
            17: calendar 0 | set 0 1 1 | pilgrim 10 -1 => well 0 = 1
            """);
    }

    /** "The next day from now on (this one to the one 400 days behind it) that is HOLY by a CALENDAR". */
    private static void next() {
        Told.table("""
            18: 2 calendar 0 => next -1 = BEYOND
            18: 2 calendar 0 => next 0 = 1
            18: 2 calendar 0 | set 1 1 1 => next 1 = 0
            18: 2 calendar 0 => next 2 = BEYOND
            18: 2 calendar 0 | days 1 => next 0 = 1
            18: 2 calendar 0 | days 2 => next 0 = 3
            18: calendar 0 | set 0 2 3 | days 2 => next 0 = 4
            18: calendar 0 | set 0 2 3 | days 3 => next 0 = 4
            18: 2 calendar 0 | set 0 2 1 => next 0 = NONE
            18: calendar 5 | set 0 2 1 => next 0 = NONE
            18: calendar 4 | set 0 2 1 => next 0 = 0
            """);
    }

    /** "In how many of the n days (1 to 400) from now on (this one, too)"; "The longest row .. of the n (1 to 400)". */
    private static void agreeAndRow() {
        // Both are HOLY on odd days; from its REFORM on 1 is HOLY on even ones.
        String two = "calendar 0 | set 0 2 2 | calendar 2 | set 1 2 2 | set 1 3 1 | set 1 4 ";
        for (String act : new String[] {"agree", "row"}) {
            String promise = (act.equals("agree") ? "19: " : "20: ") + two;
            Told.table(promise + "9 => " + act + " 0 1 0 = BEYOND\n"
                + promise + "9 => " + act + " 0 1 -1 = BEYOND\n"
                + promise + "9 => " + act + " 0 1 1 = 1\n"
                + promise + "0 => " + act + " 0 1 1 = 0\n"
                + promise + "399 => " + act + " 0 1 399 = 399\n"
                + promise + "399 => " + act + " 0 1 400 = 399\n"
                + promise + "400 => " + act + " 1 0 400 = 400\n"
                + promise + "400 | days 1 => " + act + " 1 0 400 = 399\n"
                + promise + "9 => " + act + " 0 1 401 = BEYOND\n"
                + promise + "1 | set 0 1 1 => " + act + " 0 1 400 = 399\n"
                + promise + "9 => " + act + " 0 0 5 = BEYOND\n"
                + promise + "9 => " + act + " 1 1 5 = BEYOND\n"
                + promise + "9 => " + act + " -1 1 5 = BEYOND\n"
                + promise + "9 => " + act + " 0 -1 5 = BEYOND\n"
                + promise + "9 => " + act + " 2 1 5 = BEYOND\n"
                + promise + "9 => " + act + " 0 2 5 = BEYOND");
        }
    }

    /** "(this one to the one 2000 days behind it) that is HOLY by all of a set .. (of those that there are; not empty)". */
    private static void meet() {
        String two = "calendar 0 | set 0 2 2 | calendar 2 | set 1 2 2 | set 1 3 1 | set 1 4 ";
        Told.table("21: " + two + "1999 => meet 1 = 1999\n"
            + "21: " + two + "2000 => meet 2 = 2000\n"
            + "21: " + two + "2001 => meet 1 = NONE\n"
            + "21: " + two + "2001 | days 1 => meet 1 = 2001\n"
            + "21: " + two + "2002 | days 1 => meet 2 = NONE\n"
            + "21: " + two + "2000 => meet 3 = 1\n"
            + "21: " + two + "2000 | days 1 => meet 3 = 1\n"
            + "21: " + two + "0 => meet 2 = 0\n"
            + "21: " + two + "0 => meet 3 = NONE");
        Told.table("""
            21: calendar 0 => meet -1 = BEYOND
            21: calendar 0 => meet 0 = BEYOND
            21: calendar 0 => meet 1 = 1
            21: calendar 0 => meet 2 = BEYOND
            21: calendar 0 => meet 3 = BEYOND
            21: 6 calendar 0 => meet 63 = 1
            21: 6 calendar 0 => meet 64 = BEYOND
            21: 6 calendar 0 => meet 127 = BEYOND
            21: 6 calendar 0 => meet 32 = NONE
            21: 6 calendar 0 | set 5 1 1 => meet 32 = 0
            21: 6 calendar 0 | set 5 1 1 => meet 31 = 1
            """);
    }

    /** "(this one to the one 2000 days behind it) that has a DATE (1 to 60) by one and a DATE by another". */
    private static void both() {
        String two = "calendar 0 | set 0 2 2 | calendar 2 | set 1 2 2 | set 1 3 1 | set 1 4 ";
        Told.table("22: " + two + "1999 => both 0 2 1 1 = 1999\n"
            + "22: " + two + "2000 => both 0 1 1 2 = 2000\n"
            + "22: " + two + "2001 => both 0 2 1 1 = NONE\n"
            + "22: " + two + "2001 | days 1 => both 0 2 1 1 = 2001\n"
            + "22: " + two + "0 => both 1 2 0 1 = 0");
        Told.table("""
            22: 2 calendar 0 => both 0 0 1 1 = BEYOND
            22: 2 calendar 0 => both 0 1 1 0 = BEYOND
            22: 2 calendar 0 => both 0 1 1 1 = 0
            22: 2 calendar 0 | set 0 2 60 | set 1 2 60 => both 0 60 1 60 = 59
            22: 2 calendar 0 | set 0 2 60 | set 1 2 60 => both 0 61 1 60 = BEYOND
            22: 2 calendar 0 | set 0 2 60 | set 1 2 60 => both 0 60 1 61 = BEYOND
            22: 2 calendar 0 => both 0 30 1 30 = 29
            22: 2 calendar 0 => both 0 31 1 31 = NONE
            22: 2 calendar 0 => both 0 1 0 1 = BEYOND
            22: 2 calendar 0 => both 1 1 1 1 = BEYOND
            22: 2 calendar 0 => both -1 1 1 1 = BEYOND
            22: 2 calendar 0 => both 2 1 1 1 = BEYOND
            22: 2 calendar 0 => both 0 1 -1 1 = BEYOND
            22: 2 calendar 0 => both 0 1 2 1 = BEYOND
            """);
    }

    /** "WELL soonest (within 400 DAYS)"; "from now on (this day to the one 2000 days behind it)". */
    private static void trustAndCure() {
        // The fewest HOLY days that a CALENDAR with any can have are two in seven (MONK with months of three days),
        // so ILL 99 and POWER 1 take no more than some 350 days: no run comes to day 400 of trust or 2000 of cure.
        Told.table("""
            23: 2 calendar 0 | 2 pilgrim 50 1 => trust -1 = BEYOND
            23: 2 calendar 0 | 2 pilgrim 50 1 => trust 0 = 0
            23: 2 calendar 0 | 2 pilgrim 50 1 => trust 1 = 0
            23: 2 calendar 0 | 2 pilgrim 50 1 => trust 2 = BEYOND
            23: 2 calendar 0 | set 0 2 1 | law 1 1 | pilgrim 50 0 => trust 0 = 1
            23: 2 calendar 0 | set 0 2 1 | pilgrim 50 0 => trust 0 = NONE
            23: calendar 5 | set 0 2 3 | law 0 1 | pilgrim 99 -1 => trust 0 = 0
            25: calendar 0 | 2 pilgrim 10 -1 => cure -1 = BEYOND
            25: calendar 0 | 2 pilgrim 10 -1 => cure 0 = 1
            25: calendar 0 | 2 pilgrim 10 -1 => cure 1 = 1
            25: calendar 0 | 2 pilgrim 10 -1 => cure 2 = BEYOND
            25: calendar 0 | 2 pilgrim 11 -1 => cure 0 = 3
            25: calendar 0 | pilgrim 99 -1 | law 0 1 => cure 0 = 197
            25: calendar 0 | pilgrim 99 -1 | law 0 50 => cure 0 = 3
            25: calendar 0 | set 0 1 1 | pilgrim 10 -1 => cure 0 = 0
            25: calendar 0 | set 0 2 1 | pilgrim 10 -1 => cure 0 = NONE
            """);
    }

    /** "makes ILL of all least ON n DAYS (1 to 100)". */
    private static void truth() {
        // By 0 and 1 the same days are HOLY up to day 98; on day 99 only by 1.
        String two = "24: calendar 2 | set 0 2 2 | set 0 3 1 | set 0 4 99 | calendar 0 | set 1 2 2 | law 0 1 | pilgrim 99 -1";
        Told.table(two + " => truth 0 = BEYOND\n"
            + two + " => truth -1 = BEYOND\n"
            + two + " => truth 1 = 0\n"
            + two + " => truth 99 = 0\n"
            + two + " => truth 100 = 1\n"
            + two + " => truth 101 = BEYOND");
        Told.table("""
            24: 2 calendar 0 | set 1 1 1 | pilgrim 50 -1 => truth 1 = 1
            24: 6 calendar 0 | set 5 1 1 | pilgrim 50 -1 => truth 1 = 5
            """);
    }

    /** "agrees with TRUTH in most of the n days (1 to 400) from now on; of several the least". */
    private static void kind() {
        // As COUNT 1 differs from TRUTH on day 399 alone, as NEW never.
        String two = "26: calendar 2 | calendar 0 | set 0 2 2 | set 0 3 1 | set 0 4 399 | set 1 2 2 | set 1 3 1 | set 1 4 399";
        Told.table(two + " => kind 1 0 = BEYOND\n"
            + two + " => kind 1 -1 = BEYOND\n"
            + two + " => kind 1 1 = 0\n"
            + two + " => kind 1 399 = 0\n"
            + two + " => kind 1 400 = 2\n"
            + two + " => kind 1 401 = BEYOND\n"
            + two + " => kind -1 5 = BEYOND\n"
            + two + " => kind 2 5 = BEYOND");
        Told.table("""
            26: calendar 5 | calendar 0 => kind 1 400 = 5
            26: calendar 0 | calendar 5 => kind 1 400 = 0
            """);
    }

    /** "The least BEGIN (0 to 99) with which a CALENDAR agrees with TRUTH in most of the n days (1 to 100)". */
    private static void begin() {
        // TRUTH is HOLY on even days up to 49, then on odd ones: BEGIN 1 agrees on the first 50 days, BEGIN 0 on the rest.
        String two = "27: calendar 2 | calendar 0 | set 0 1 1 | set 0 2 2 | set 0 3 1 | set 1 2 2";
        Told.table(two + " => begin 1 0 = BEYOND\n"
            + two + " => begin 1 -1 = BEYOND\n"
            + two + " => begin 1 1 = 1\n"
            + two + " => begin 1 99 = 1\n"
            + two + " => begin 1 100 = 0\n"
            + two + " => begin 1 101 = BEYOND\n"
            + two + " => begin -1 5 = BEYOND\n"
            + two + " => begin 2 5 = BEYOND");
        // By COG and months of 60 days each 60 more of BEGIN turn every day about, so no other BEGIN is as 99.
        Told.table("""
            27: 2 calendar 3 | set 0 1 99 | set 0 2 60 | set 1 2 60 => begin 1 100 = 99
            27: 2 calendar 3 | set 0 1 98 | set 0 2 60 | set 1 2 60 => begin 1 100 = 98
            27: 2 calendar 3 | set 1 1 99 | set 0 2 60 | set 1 2 60 => begin 1 100 = 0
            """);
    }

    /** "The least POWER (1 to 50) with which most are WELL ON n DAYS (1 to 100)". */
    private static void power() {
        // The odd days are HOLY: 50 of the first 100, 49 of the first 99.
        Told.table("""
            28: calendar 0 | pilgrim 50 0 => power 0 = BEYOND
            28: calendar 0 | pilgrim 50 0 => power -1 = BEYOND
            28: calendar 0 | pilgrim 50 0 => power 1 = 1
            28: calendar 0 | set 0 1 1 | pilgrim 50 0 => power 1 = 50
            28: calendar 0 | pilgrim 50 0 => power 2 = 50
            28: calendar 0 | pilgrim 49 0 => power 2 = 49
            28: calendar 0 | pilgrim 51 0 => power 2 = 1
            28: calendar 0 | pilgrim 50 0 => power 99 = 2
            28: calendar 0 | pilgrim 50 0 => power 100 = 1
            28: calendar 0 | pilgrim 50 0 => power 101 = BEYOND
            """);
    }

    /** "(n 1 to 4): how many it has"; "(bytes, at most 120)". */
    private static void feed() {
        Told.table("""
            29: => feed 5 -1 = BEYOND
            29: => feed 5 0 = BEYOND
            29: => feed 5 1 = 1
            29: => feed 5 4 = 4
            29: => feed 5 5 = BEYOND
            29: 29 feed 5 4 | feed 5 2 => feed 5 1 = 119
            29: 29 feed 5 4 | feed 5 2 => feed 5 2 = 120
            29: 29 feed 5 4 | feed 5 2 => feed 5 3 = FULL
            29: 29 feed 5 4 => feed 5 4 = 120
            29: 29 feed 5 4 | feed 5 1 => feed 5 4 = FULL
            29: 30 feed 5 4 => feed 5 1 = FULL
            """);
    }

    /** "SHEETS 0 to 3 are rows of at most 40 numbers of 8, 16 or 64 bits". */
    private static void sheets() {
        Told.table("""
            32: => sheet -1 8 5 = BEYOND
            32: => sheet 0 8 5 = 5
            32: => sheet 3 8 5 = 5
            32: => sheet 4 8 5 = BEYOND
            32: sheet 1 16 3 => sheet 1 8 -1 = SIZE
            32: sheet 1 16 3 => sheet 1 8 0 = 0
            32: sheet 1 16 3 => sheet 1 8 40 = 40
            32: sheet 1 16 3 => sheet 1 8 41 = BEYOND
            32: sheet 1 16 3 => sheet 1 0 -1 = SIZE
            32: sheet 1 16 3 => sheet 1 0 0 = 0
            32: sheet 1 16 3 => sheet 1 0 40 = 0
            32: sheet 1 16 3 => sheet 1 0 41 = BEYOND
            """);
        int[] all = {-64, -16, -8, -1, 1, 7, 9, 15, 17, 24, 32, 63, 65, 128};
        for (int bits : all) {
            Told.refused("32", "sheet 1 16 3 | write 1 2 7", "sheet 1 " + bits + " 5", Checks.BEYOND);
        }
        for (int bits : new int[] {8, 16, 64}) {
            Told.table("32: => sheet 2 " + bits + " 40 = 40\n33: sheet 2 " + bits + " 40 => write 2 39 5 = 0");
        }
    }

    /** "BEYOND: no such number". */
    private static void write() {
        Told.table("""
            33: sheet 0 8 3 => write 0 -1 5 = BEYOND
            33: sheet 0 8 3 | write 0 0 7 => write 0 0 5 = 7
            33: sheet 0 8 3 | write 0 2 7 => write 0 2 5 = 7
            33: sheet 0 8 3 => write 0 3 5 = BEYOND
            33: sheet 0 8 40 | write 0 39 7 => write 0 39 5 = 7
            33: sheet 0 8 40 => write 0 40 5 = BEYOND
            33: sheet 3 8 3 => write 3 0 5 = 0
            33: sheet 0 8 3 => write -1 0 5 = BEYOND
            33: sheet 3 8 3 => write 4 0 5 = BEYOND
            """);
    }

    /** "BEYOND: one has not so many, or from, to or n is below 0". */
    private static void copy() {
        String two = "34: sheet 0 8 5 | sheet 3 8 3 | write 0 0 1 | write 0 4 5 => copy ";
        Told.table(two + "0 0 3 0 3 = 3\n"
            + two + "0 0 3 0 4 = BEYOND\n"
            + two + "3 0 0 2 3 = 3\n"
            + two + "3 0 0 3 3 = BEYOND\n"
            + two + "0 2 3 0 3 = 3\n"
            + two + "0 3 3 0 3 = BEYOND\n"
            + two + "0 4 3 2 1 = 1\n"
            + two + "0 5 3 2 1 = BEYOND\n"
            + two + "0 4 3 3 1 = BEYOND\n"
            + two + "0 0 3 0 0 = 0\n"
            + two + "0 5 3 3 0 = 0\n"
            + two + "0 6 3 3 0 = BEYOND\n"
            + two + "0 5 3 4 0 = BEYOND\n"
            + two + "0 -1 3 0 1 = BEYOND\n"
            + two + "0 0 3 -1 1 = BEYOND\n"
            + two + "0 0 3 0 -1 = BEYOND\n"
            + two + "0 1 3 1 -1 = BEYOND\n"
            + two + "0 -1 3 -1 0 = BEYOND\n"
            + two + "-1 0 3 0 1 = BEYOND\n"
            + two + "4 0 3 0 1 = BEYOND\n"
            + two + "0 0 -1 0 1 = BEYOND\n"
            + two + "0 0 4 0 1 = BEYOND");
    }

    /** "(those that aren't 0 to 99, or stand for none, are left out)"; PILGRIMS and sheets that there are. */
    private static void laysBookRead() {
        Told.table("""
            35: 2 pilgrim 50 -1 | sheet 0 8 1 | write 0 0 -1 => lays 0 = 0
            35: 2 pilgrim 50 -1 | sheet 0 8 1 | write 0 0 -1 | lays 0 => about 0 0 = 50
            35: 2 pilgrim 50 -1 | sheet 0 8 1 => lays 0 = 1
            35: 2 pilgrim 50 -1 | sheet 0 8 1 | lays 0 => about 0 0 = 0
            35: 2 pilgrim 50 -1 | sheet 0 8 1 | lays 0 => about 1 0 = 50
            35: 2 pilgrim 50 -1 | sheet 0 8 2 | write 0 1 99 => lays 0 = 2
            35: 2 pilgrim 50 -1 | sheet 0 8 2 | write 0 1 99 | lays 0 => about 1 0 = 99
            35: 2 pilgrim 50 -1 | sheet 0 8 2 | write 0 1 100 => lays 0 = 1
            35: 2 pilgrim 50 -1 | sheet 0 8 2 | write 0 1 100 | lays 0 => about 1 0 = 50
            35: 2 pilgrim 50 -1 | sheet 0 8 3 => lays 0 = 2
            35: sheet 3 8 3 => lays 3 = 0
            35: sheet 3 8 3 => lays 4 = BEYOND
            35: sheet 0 8 3 => lays -1 = BEYOND
            36: 2 pilgrim 50 -1 | sheet 3 8 3 => book 3 1 = 3
            36: 2 pilgrim 50 -1 | sheet 3 8 3 => book 3 0 = 3
            36: 2 pilgrim 50 -1 | sheet 3 8 3 => book 3 -1 = BEYOND
            36: 2 pilgrim 50 -1 | sheet 3 8 3 => book 3 2 = BEYOND
            36: 2 pilgrim 50 -1 | sheet 3 8 3 => book 4 0 = BEYOND
            36: 2 pilgrim 50 -1 | sheet 0 8 3 => book -1 0 = BEYOND
            37: calendar 0 | 2 pilgrim 50 -1 | sheet 3 8 3 | book 3 1 => read 3 1 = 1
            37: calendar 0 | 2 pilgrim 50 -1 | sheet 3 8 3 => read 3 -1 = BEYOND
            37: calendar 0 | 2 pilgrim 50 -1 | sheet 3 8 3 => read 3 2 = BEYOND
            37: calendar 0 | 2 pilgrim 50 -1 | sheet 3 8 3 => read 4 0 = BEYOND
            37: calendar 0 | 2 pilgrim 50 -1 | sheet 0 8 3 => read -1 0 = BEYOND
            """);
    }

    /** "0 CALENDARS .. 3 BATHED of all together. BEYOND: another what"; "which -1: all, 0 to 6: BEYOND to SIZE". */
    private static void countAndStatus() {
        Told.table("""
            41: calendar 0 | pilgrim 5 -1 | bathe 0 => count -1 = BEYOND
            41: calendar 0 | pilgrim 5 -1 | bathe 0 => count 0 = 1
            41: calendar 0 | pilgrim 5 -1 | bathe 0 => count 3 = 1
            41: calendar 0 | pilgrim 5 -1 | bathe 0 => count 4 = BEYOND
            42: calendar 9 => status -2 = BEYOND
            42: calendar 9 => status -1 = 1
            42: calendar 9 => status 0 = 1
            42: sheet 0 8 -1 => status 6 = 1
            42: sheet 0 8 -1 => status 7 = BEYOND
            42: 2 status 7 => status 0 = 2
            42: 2 status -2 => status -1 = 2
            """);
    }
}
