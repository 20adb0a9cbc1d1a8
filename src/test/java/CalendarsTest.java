/** Promises 1 to 8: a new object, calendar, of, set, turn, as, date, law. */
public final class CalendarsTest {
    public static void main(String[] args) {
        newObject();
        calendar();
        of();
        set();
        turn();
        as();
        dateOfCountAndOld();
        dateOfNew();
        dateOfCog();
        dateOfLeap();
        dateOfMonk();
        dateWrong();
        law();
        Checks.end();
    }

    private static void newObject() {
        EvenSpring x = new EvenSpring();
        int[] first = {0, 10, 0, 0, 0, 0, 0};
        for (int what = 0; what < first.length; what++) {
            Checks.due("1: now(" + what + ")", x.now(what), first[what]);
        }
        for (int what = 0; what < 4; what++) {
            Checks.due("1: count(" + what + ")", x.count(what), 0);
        }
        Checks.due("1: no image", x.undo(), Checks.NONE);
        Checks.due("1: nothing to tear", x.tear(), 0);
        for (int s = 0; s < 4; s++) {
            Checks.due("1: sheet " + s, x.write(s, 0, 0), Checks.MISSING);
        }
        Checks.due("1: status", x.status(-1), 5);
        Checks.due("1: a fresh one", new EvenSpring().status(-1), 0);
    }

    private static void calendar() {
        EvenSpring x = new EvenSpring();
        Checks.allFind("2: kind", Checks.BEYOND, x.calendar(-1), x.calendar(6),
            x.calendar(Integer.MAX_VALUE), x.calendar(Integer.MIN_VALUE));
        Checks.due("2: none came", x.count(0), 0);
        for (int k = 0; k < 6; k++) {
            Checks.due("2: calendar", x.calendar(5 - k), k);
            Checks.due("2: its kind", x.of(k, 0), 5 - k);
        }
        Checks.due("2: full", x.calendar(0), Checks.FULL);
        Checks.due("2: kind is asked first", x.calendar(6), Checks.BEYOND);
        Checks.due("2: still six", x.count(0), 6);
    }

    private static void of() {
        EvenSpring x = new EvenSpring();
        Checks.due("3: none yet", x.of(0, 0), Checks.BEYOND);
        x.calendar(3);
        int[] first = {3, 0, 30, 11, 50};
        for (int what = 0; what < 5; what++) {
            Checks.due("3: of(0, " + what + ")", x.of(0, what), first[what]);
        }
        Checks.allFind("3: beyond", Checks.BEYOND, x.of(1, 0), x.of(-1, 0), x.of(0, -1), x.of(0, 5));
    }

    private static void set() {
        EvenSpring x = new EvenSpring();
        x.calendar(0);
        x.calendar(0);
        int[] least = {0, 0, 1, 0, 0};
        int[] most = {5, 99, 60, 99, 9999};
        int[] first = {0, 0, 30, 11, 50};
        for (int what = 1; what < 5; what++) {
            Checks.due("4: to the most", x.set(1, what, most[what]), first[what]);
            Checks.due("4: to the least", x.set(1, what, least[what]), most[what]);
            Checks.due("4: above", x.set(1, what, most[what] + 1), Checks.BEYOND);
            Checks.due("4: below", x.set(1, what, least[what] - 1), Checks.BEYOND);
            Checks.due("4: it stays", x.of(1, what), least[what]);
            Checks.due("4: the other one stays", x.of(0, what), first[what]);
        }
        Checks.allFind("4: beyond", Checks.BEYOND, x.set(0, 0, 1), x.set(0, 5, 1), x.set(0, -1, 1),
            x.set(2, 1, 1), x.set(-1, 1, 1));
        Checks.due("4: kind stays", x.of(0, 0), 0);
    }

    private static void turn() {
        EvenSpring x = new EvenSpring();
        x.calendar(2);
        x.set(0, 1, 7);
        Checks.due("5: turn", x.turn(0, 5), 2);
        Checks.due("5: kind", x.of(0, 0), 5);
        Checks.due("5: begin stays", x.of(0, 1), 7);
        Checks.due("5: the same again", x.turn(0, 5), 5);
        Checks.due("5: to 0", x.turn(0, 0), 5);
        Checks.allFind("5: beyond", Checks.BEYOND, x.turn(0, 6), x.turn(0, -1), x.turn(1, 0), x.turn(-1, 0));
        Checks.due("5: kind stays", x.of(0, 0), 0);
    }

    private static void as() {
        EvenSpring x = Checks.ofAllKinds();
        int[] above = {-1, 0, 0, 0, 2, 1};
        for (int c = 0; c < 6; c++) {
            x.set(c, 1, 10 + c);
            for (int k = 0; k < 6; k++) {
                boolean is = k == c || k == above[c] || k == 0;
                Checks.due("6: as(" + c + ", " + k + ")", x.as(c, k), is ? 10 + c : Checks.KIND);
            }
        }
        Checks.allFind("6: beyond", Checks.BEYOND, x.as(6, 0), x.as(-1, 0), x.as(0, 6), x.as(0, -1));
    }

    private static void dated(EvenSpring x, int c, int day, int... due) {
        for (int what = 0; what < 4; what++) {
            Checks.due("7: date(" + c + ", " + day + ", " + what + ")", x.date(c, day, what), due[what]);
        }
    }

    private static void dateOfCountAndOld() {
        EvenSpring x = Checks.ofAllKinds();
        for (int c = 0; c < 2; c++) {
            dated(x, c, 0, 1, 0, 0, 0);
            dated(x, c, 1, 2, 0, 1, 1);
            dated(x, c, 29, 30, 0, 1, 29);
            dated(x, c, 30, 1, 1, 0, 30);
            dated(x, c, 99999, 10, 3333, 1, 99999);
            x.set(c, 1, 99);
            x.set(c, 2, 7);
            dated(x, c, 0, 2, 14, 1, 99);
            dated(x, c, 6, 1, 15, 0, 105);
            x.set(c, 2, 1);
            dated(x, c, 5, 1, 104, 0, 104);
        }
    }

    private static void dateOfNew() {
        EvenSpring x = Checks.ofAllKinds();
        dated(x, 2, 49, 20, 1, 1, 49);
        dated(x, 2, 50, 2, 2, 1, 61);
        dated(x, 2, 51, 3, 2, 0, 62);
        x.set(2, 4, 0);
        x.set(2, 3, 99);
        x.set(2, 1, 3);
        dated(x, 2, 0, 13, 3, 0, 102);
        x.set(2, 4, 9999);
        dated(x, 2, 9998, 12, 333, 1, 10001);
        dated(x, 2, 9999, 22, 336, 1, 10101);
    }

    private static void dateOfCog() {
        EvenSpring x = Checks.ofAllKinds();
        dated(x, 3, 0, 1, 0, 0, 0);
        dated(x, 3, 6, 7, 0, 0, 6);
        dated(x, 3, 7, 9, 0, 0, 8);
        dated(x, 3, 8, 10, 0, 1, 9);
        dated(x, 3, 27, 1, 1, 1, 30);
        dated(x, 3, 31, 6, 1, 0, 35);
        // A seventh of the day, not of the day and BEGIN.
        x.set(3, 1, 6);
        dated(x, 3, 6, 13, 0, 0, 12);
    }

    private static void dateOfLeap() {
        EvenSpring x = Checks.ofAllKinds();
        dated(x, 4, 0, 1, 0, 1, 0);
        dated(x, 4, 2, 3, 0, 0, 2);
        dated(x, 4, 30, 1, 1, 1, 30);
        dated(x, 4, 50, 2, 2, 1, 61);
        dated(x, 4, 108, 30, 3, 1, 119);
        dated(x, 4, 109, 2, 4, 1, 121);
        dated(x, 4, 130, 23, 4, 0, 142);
        // The months that have gone are those of NEW: 7 of 30 days, though RUNS have come to 240 nearly.
        dated(x, 4, 228, 1, 8, 1, 240);
        x.set(4, 2, 1);
        dated(x, 4, 49, 1, 61, 1, 61);
    }

    private static void dateOfMonk() {
        EvenSpring x = Checks.ofAllKinds();
        dated(x, 5, 1, 2, 0, 1, 1);
        dated(x, 5, 2, 2, 0, 0, 1);
        dated(x, 5, 3, 3, 0, 0, 2);
        dated(x, 5, 8, 8, 0, 1, 7);
        dated(x, 5, 9, 8, 0, 0, 7);
        dated(x, 5, 10, 9, 0, 0, 8);
        x.set(5, 1, 5);
        dated(x, 5, 2, 7, 0, 0, 6);
        dated(x, 5, 16, 19, 0, 0, 18);
    }

    private static void dateWrong() {
        EvenSpring x = new EvenSpring();
        x.calendar(0);
        Checks.allFind("7: beyond", Checks.BEYOND, x.date(1, 0, 0), x.date(-1, 0, 0), x.date(0, -1, 0),
            x.date(0, 100000, 0), x.date(0, 0, -1), x.date(0, 0, 4));
    }

    private static void law() {
        EvenSpring x = new EvenSpring();
        Checks.due("8: power", x.law(0, 50), 10);
        Checks.due("8: power", x.law(0, 1), 50);
        Checks.due("8: truth", x.law(1, 5), 0);
        Checks.due("8: truth", x.law(1, 3), 5);
        Checks.allFind("8: beyond", Checks.BEYOND, x.law(0, 0), x.law(0, 51), x.law(1, -1), x.law(1, 6),
            x.law(2, 1), x.law(-1, 1));
        Checks.due("8: power now", x.now(1), 1);
        Checks.due("8: truth now", x.now(2), 3);
    }
}
