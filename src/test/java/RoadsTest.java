import java.util.Set;
import java.util.TreeSet;

/**
 * Late in a long run of calls, behind other acts, behind undo() and behind spring(): one and the same spring is come
 * to by many roads, and by each of them every act answers what is due and leaves behind it what it leaves by the
 * plainest road.
 */
public final class RoadsTest {
    private static final int MOST_CALLS = 512;

    // 0 is COUNT; 1 is NEW and true; 2 is MONK with months of three days.
    private static final String PLAIN = "calendar 0 | calendar 2 | set 1 1 3 | set 1 2 8 | set 1 3 5 | set 1 4 20 "
        + "| calendar 5 | set 2 2 3 | law 0 7 | law 1 1 | pilgrim 60 1 | pilgrim 75 -1 | pilgrim 0 0 | pilgrim 99 2";
    private static final String TEXTS = "tell power 7;count;new begin 3 length 8 left 5 reform 20;monk length 3 | spring "
        + "| tell pilgrim 60 trusts 1;pilgrim 75;truth 1;pilgrim 0 trusts 0;pilgrim 99 trusts 2 | spring";
    private static final String REPAIRED = "calendar 5 | calendar 4 | calendar 0 | turn 0 0 | turn 1 2 | turn 2 5 "
        + "| set 1 4 9999 | set 1 3 99 | set 1 2 60 | set 1 1 99 | set 1 1 3 | set 1 2 8 | set 1 3 5 | set 1 4 20 "
        + "| set 2 2 3 | 4 pilgrim 1 -1 | mind 0 0 60 | mind 1 0 75 | mind 2 0 0 | mind 3 0 99 | mind 0 1 1 | mind 2 1 0 "
        + "| mind 3 1 2 | law 0 50 | law 0 7 | law 1 5 | law 1 1";
    // The tape and the sheets are no part of an image, so they are made when the road has been gone.
    private static final String THEN = " | days 3 | image | days 7 | sheet 0 8 3 | write 0 0 25 | write 0 1 18 "
        + "| write 0 2 18 | sheet 2 64 3 | write 2 1 300 | sheet 3 8 2 | write 3 0 7 | tell old;cog begin 9";

    private static final String WRECK = "days 400 | 3 calendar 3 | law 0 50 | law 1 4 | tell pilgrim 5;power 49;truth 3 "
        + "| spring | set 0 2 1 | turn 0 4 | set 1 1 99 | 8 pilgrim 99 -1 | mind 0 0 0 | mind 1 1 0 | days 30 | bathe 2 "
        + "| drink 1 0 | sheet 0 8 8 | book 0 1 | lays 0 | sheet 0 0 0";
    private static final String FAULT = "tell leap begin 9 length 1;pilgrim 5 trusts 0;truth 5;power 3;x | spring";
    private static final String REFUSED = "calendar 6 | of 6 0 | set 0 0 1 | turn 0 6 | as 0 6 | date 0 -1 0 | law 2 1 "
        + "| pilgrim 100 -1 | about 8 0 | mind 8 0 1 | drink 8 0 | bathe 8 | days 401 | now 7 | on 8 0 0 | well 8 | next 6 "
        + "| agree 0 0 1 | row 0 0 1 | meet 64 | both 0 1 0 1 | trust 8 | truth 101 | cure 8 | kind 6 1 | begin 6 1 "
        + "| power 101 | feed 97 5 | sheet 0 9 1 | sheet 0 8 -1 | write 0 0 1 | copy 0 0 1 0 0 | lays 0 | book 0 0 "
        + "| read 0 0 | undo | count 4 | status 7";
    private static final String LOOKS = "of 1 1 | as 2 1 | date 2 99999 3 | about 3 0 | now 6 | on 3 400 1 | well 1 | next 2 "
        + "| agree 0 1 400 | row 1 2 400 | meet 7 | both 0 30 1 6 | trust 3 | truth 100 | cure 3 | kind 0 400 | begin 2 100 "
        + "| power 100 | count 3 | status -1 | on 0 400 0 | well 0 | kind 2 399 | begin 0 99 | truth 1 | power 1 | trust 0";

    private static final String[] ROADS = {
        PLAIN,
        TEXTS,
        REPAIRED,
        PLAIN + " | image | " + WRECK + " | undo | tear",
        TEXTS + " | image | " + WRECK + " | undo | " + WRECK + " | undo",
        "image | " + WRECK + " | undo | " + PLAIN,
        "image | 6 calendar 4 | " + WRECK + " | undo | tear | " + TEXTS,
        FAULT + " | " + PLAIN + " | " + FAULT,
        TEXTS + " | " + FAULT + " | image | " + FAULT + " | undo",
        REFUSED + " | " + PLAIN + " | " + REFUSED,
        PLAIN + " | " + LOOKS + " | " + LOOKS,
        "4 sheet 0 64 40 | write 0 0 -1 | write 0 39 9 | sheet 0 0 40 | " + REPAIRED + " | sheet 2 16 40 | book 2 0 "
            + "| copy 2 0 2 1 39 | sheet 2 0 0",
        "30 feed 2021161080 4 | wipe | 30 feed 2021161080 4 | spring | " + TEXTS,
        PLAIN + " | image | 200 now 0 | days 1 | undo",
    };

    // What is due by hand. 0 is HOLY on odd days, 1 on even ones up to 19 and on odd ones from 20 on, 2 on days 12, 15,
    // 19, 22, 26, 29 ..; on day 10 ILL are 25, 55, 0 and 92, and BATHED 5, 10, 0 and 3.
    private static final String ROWS = """
        calendar 4 = 3
        calendar 6 = BEYOND
        of 1 0 = 2
        of 1 1 = 3
        of 2 2 = 3
        of 0 3 = 11
        of 1 4 = 20
        of 3 0 = BEYOND
        set 1 1 4 = 3
        set 2 2 60 = 3
        set 2 2 61 = BEYOND
        turn 1 4 = 2
        turn 3 4 = BEYOND
        as 1 2 = 3
        as 2 1 = 0
        as 2 2 = KIND
        date 1 19 3 = 22
        date 1 20 3 = 28
        date 2 12 0 = 2
        date 2 16 2 = 0
        date 0 60 1 = 2
        date 0 100000 1 = BEYOND
        law 0 9 = 7
        law 1 0 = 1
        law 1 6 = BEYOND
        pilgrim 9 2 = 4
        pilgrim 9 3 = BEYOND
        about 0 0 = 25
        about 1 0 = 55
        about 3 0 = 92
        about 0 1 = 1
        about 1 1 = -1
        about 1 2 = 10
        about 3 2 = 3
        about 4 0 = BEYOND
        mind 3 0 5 = 92
        mind 3 1 -1 = 2
        mind 3 1 3 = BEYOND
        drink 1 1 = 48
        drink 1 0 = 58
        drink 4 0 = BEYOND
        bathe 0 = 18
        bathe 2 = 0
        bathe 3 = 85
        bathe 4 = BEYOND
        days 6 = 1
        days 7 = 2
        days 400 = 4
        days 0 = BEYOND
        now 0 = 10
        now 1 = 7
        now 2 = 1
        now 3 = 1
        now 4 = 1
        now 5 = 172
        now 6 = 4
        now 7 = BEYOND
        on 0 6 0 = 4
        on 0 400 0 = 0
        on 0 400 1 = 9
        on 3 5 0 = 85
        on 3 5 1 = 4
        on 3 401 1 = BEYOND
        well 0 = 7
        well 2 = 0
        well 4 = BEYOND
        next 0 = 11
        next 1 = 10
        next 2 = 12
        next 3 = BEYOND
        agree 0 1 10 = 0
        agree 0 1 400 = 390
        agree 0 1 401 = BEYOND
        row 1 0 400 = 390
        row 0 3 1 = BEYOND
        meet 1 = 11
        meet 2 = 10
        meet 3 = 21
        meet 4 = 22
        meet 5 = 15
        meet 6 = 12
        meet 7 = 29
        meet 8 = BEYOND
        both 0 22 1 6 = 21
        both 0 22 1 9 = NONE
        both 0 22 3 6 = BEYOND
        trust 0 = 1
        trust 2 = 0
        trust 4 = BEYOND
        truth 1 = 1
        truth 0 = BEYOND
        cure 0 = 16
        cure 1 = 25
        cure 3 = 37
        cure 2 = STATE
        cure 4 = BEYOND
        kind 0 10 = 3
        kind 0 400 = 0
        kind 1 400 = 0
        kind 3 400 = BEYOND
        begin 0 10 = 1
        begin 0 100 = 0
        begin 1 100 = 0
        begin 0 101 = BEYOND
        power 5 = 27
        power 0 = BEYOND
        feed 32 1 = 16
        feed 32 5 = BEYOND
        wipe = 15
        spring = 2
        sheet 1 16 4 = 4
        sheet 0 0 0 = 0
        sheet 1 16 -1 = SIZE
        write 0 1 9 = 18
        write 2 1 0 = 300
        write 1 1 0 = MISSING
        write 3 2 0 = BEYOND
        copy 0 0 3 0 2 = 2
        copy 0 0 0 1 2 = 2
        copy 0 0 2 0 2 = KIND
        copy 0 0 1 0 2 = MISSING
        lays 0 = 3
        lays 2 = 2
        lays 1 = MISSING
        book 0 3 = 3
        book 1 3 = MISSING
        book 0 4 = BEYOND
        read 0 0 = 1
        read 0 1 = 0
        read 0 4 = BEYOND
        image = 1
        undo = 3
        tear = 1
        count 0 = 3
        count 1 = 15
        count 2 = 4
        count 3 = 18
        count 4 = BEYOND
        status 7 = BEYOND
        """;

    public static void main(String[] args) {
        everyActIsAsked();
        everyRoad();
        theLastCall();
        countsOfALongRun();
        looksAreFresh();
        twoObjects();
        Checks.end();
    }

    private static String act(String row) {
        return row.substring(0, row.lastIndexOf(" = ")).trim();
    }

    private static String due(String row) {
        return row.substring(row.lastIndexOf(" = ") + 3).trim();
    }

    private static void everyActIsAsked() {
        Set<String> left = new TreeSet<>(Told.names());
        for (String row : ROWS.split("\n")) {
            left.remove(act(row).split(" ")[0]);
        }
        Checks.holds("every act is asked, but for " + left, left.isEmpty());
    }

    private static void everyRoad() {
        for (int road = 0; road < ROADS.length; road++) {
            String before = ROADS[road] + THEN;
            for (String row : ROWS.split("\n")) {
                Told.alike("road " + road, before, PLAIN + THEN, act(row), due(row));
            }
        }
    }

    /** "An object is used for at most 512 calls after it has been made": its last one is as good as its first. */
    private static void theLastCall() {
        for (String row : ROWS.split("\n")) {
            Told one = new Told(PLAIN + THEN);
            int next = 0;
            String[] looks = LOOKS.split(" \\| ");
            while (one.calls() < MOST_CALLS - 1) {
                one.ask(looks[next % looks.length]);
                next++;
            }
            Checks.due("the 512th call: " + row, one.ask(act(row)), Told.number(due(row)));
        }
    }

    /** "How many acts answered a finding ever": as many as there can be. */
    private static void countsOfALongRun() {
        String[] refused = REFUSED.split(" \\| ");
        Told one = new Told("");
        for (int i = 0; i < MOST_CALLS - 1; i++) {
            one.ask(refused[i % refused.length]);
        }
        Checks.due("42: 511 findings", one.ask("status -1"), MOST_CALLS - 1);
        Checks.due("42: 511 times NONE", new Told("511 undo").ask("status 3"), MOST_CALLS - 1);
        String both = "image | 254 calendar 6 | undo | 254 status 9 | tear";
        Checks.due("42: 508 times BEYOND", new Told(both).ask("status 0"), 508);
        Checks.due("42: 508 findings", new Told(both).ask("status -1"), 508);
    }

    /** What an earlier look ahead saw is nothing to a later one, up to the last of its 400 days. */
    private static void looksAreFresh() {
        // Every day is HOLY by 0 (LEAP, months of one day) while it is looked at; then it is COUNT, and none is.
        String seen = "calendar 4 | set 0 2 1 | calendar 0 | pilgrim 5 0 | well 0 | on 0 400 0 | agree 0 1 400 | turn 0 0 => ";
        Told.table("16: " + seen + "on 0 400 0 = 5\n"
            + "16: " + seen + "on 0 400 1 = 0\n"
            + "17: " + seen + "well 0 = NONE\n"
            + "19: " + seen + "agree 0 1 400 = 200\n"
            + "20: " + seen + "row 0 1 400 = 1\n"
            + "23: " + seen + "trust 0 = NONE\n"
            + "26: " + seen + "kind 1 400 = 5\n"
            + "28: " + seen + "power 100 = 1");
        // And the other way: none was HOLY while it was looked at, then every day is.
        String blind = "calendar 0 | set 0 2 1 | calendar 0 | pilgrim 5 0 | well 0 | on 0 400 0 | agree 0 1 400 | turn 0 4 => ";
        Told.table("16: " + blind + "on 0 400 0 = 0\n"
            + "17: " + blind + "well 0 = 1\n"
            + "19: " + blind + "agree 0 1 400 = 200\n"
            + "23: " + blind + "trust 0 = 0\n"
            + "28: " + blind + "power 100 = 1");
    }

    /** What is asked of one object is nothing to another. */
    private static void twoObjects() {
        Told one = new Told("");
        Told other = new Told("");
        String[] acts = (PLAIN + THEN).split(" \\| ");
        String[] wreck = ("image | " + WRECK).split(" \\| ");
        for (int i = 0; i < Math.max(acts.length, wreck.length); i++) {
            if (i < acts.length) {
                one.act(acts[i]);
            }
            if (i < wreck.length) {
                other.act(wreck[i]);
            }
        }
        Checks.holds("the one is as if it were alone", one.look().equals(new Told(PLAIN + THEN).look()));
        Checks.holds("and so is the other", other.look().equals(new Told("image | " + WRECK).look()));
    }
}
