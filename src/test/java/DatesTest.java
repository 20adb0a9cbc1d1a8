/** Promises 18 to 22: next, agree, row, meet, both. */
public final class DatesTest {
    public static void main(String[] args) {
        next();
        agreeAndRow();
        rowInTheMiddle();
        meet();
        meetAtTheEdge();
        both();
        bothAtTheEdge();
        Checks.end();
    }

    private static void next() {
        EvenSpring x = Checks.ofAllKinds();
        int[] due = {1, 1, 1, 1, 0, 1};
        for (int c = 0; c < 6; c++) {
            Checks.due("18: next(" + c + ")", x.next(c), due[c]);
        }
        x.days(2);
        int[] later = {3, 3, 3, 3, 3, 4};
        for (int c = 0; c < 6; c++) {
            Checks.due("18: next(" + c + ") later", x.next(c), later[c]);
        }
        x.days(1);
        Checks.due("18: this day itself", x.next(0), 3);
        Checks.allFind("18: beyond", Checks.BEYOND, x.next(6), x.next(-1));
        x.set(0, 2, 1);
        Checks.due("18: no date is even", x.next(0), Checks.NONE);
    }

    private static void agreeAndRow() {
        EvenSpring x = Checks.ofAllKinds();
        Checks.due("19: 1 day", x.agree(0, 1, 1), 1);
        Checks.due("19: 400 days", x.agree(0, 1, 400), 400);
        Checks.due("19: up to the reform", x.agree(0, 2, 50), 50);
        Checks.due("19: behind the reform", x.agree(0, 2, 400), 50);
        Checks.due("19: leap has the first", x.agree(2, 4, 31), 29);
        Checks.due("19: the other way", x.agree(4, 2, 31), 29);
        Checks.due("20: 1 day", x.row(0, 1, 1), 1);
        Checks.due("20: 400 days", x.row(0, 1, 400), 400);
        Checks.due("20: up to the reform", x.row(2, 0, 400), 50);
        Checks.due("20: not the first day", x.row(2, 4, 31), 29);
        Checks.due("20: none", x.row(2, 4, 1), 0);
        Checks.due("19: none", x.agree(2, 4, 1), 0);
        x.days(49);
        Checks.due("19: from now on", x.agree(0, 2, 400), 1);
        Checks.due("20: from now on", x.row(0, 2, 400), 1);
        Checks.allFind("19: beyond", Checks.BEYOND, x.agree(0, 0, 5), x.agree(6, 0, 5), x.agree(0, 6, 5),
            x.agree(-1, 0, 5), x.agree(0, -1, 5), x.agree(0, 1, 0), x.agree(0, 1, 401));
        Checks.allFind("20: beyond", Checks.BEYOND, x.row(0, 0, 5), x.row(6, 0, 5), x.row(0, 6, 5),
            x.row(-1, 0, 5), x.row(0, -1, 5), x.row(0, 1, 0), x.row(0, 1, 401));
    }

    private static void rowInTheMiddle() {
        EvenSpring x = new EvenSpring();
        x.calendar(0);
        x.calendar(0);
        x.set(0, 2, 5);
        x.set(1, 2, 7);
        // Dates by 5: 1 2 3 4 5 1 2 3 4 5 ..; by 7: 1 2 3 4 5 6 7 1 2 3 4 5 6 7 ..
        // They agree on days 0 to 4, 7 to 9, 14.
        Checks.due("20: the first five", x.row(0, 1, 12), 5);
        Checks.due("19: of twelve", x.agree(0, 1, 12), 8);
        Checks.due("20: the first three", x.row(0, 1, 3), 3);
        x.days(8);
        Checks.due("20: from day 8", x.row(0, 1, 9), 2);
        Checks.due("19: from day 8", x.agree(0, 1, 9), 3);
    }

    private static void meet() {
        EvenSpring x = Checks.ofAllKinds();
        Checks.due("21: all", x.meet(63), 1);
        Checks.due("21: leap alone", x.meet(16), 0);
        Checks.due("21: 0 and 1 alone", x.meet(3), 63);
        Checks.due("21: 0 without 1", x.meet(1), Checks.NONE);
        x.days(1);
        Checks.due("21: this day itself", x.meet(63), 1);
        Checks.allFind("21: beyond", Checks.BEYOND, x.meet(0), x.meet(64), x.meet(65), x.meet(-1),
            x.meet(Integer.MIN_VALUE));
        EvenSpring y = new EvenSpring();
        Checks.allFind("21: no calendars", Checks.BEYOND, y.meet(0), y.meet(1));
        y.calendar(0);
        y.calendar(0);
        y.set(1, 1, 1);
        Checks.due("21: one alone", y.meet(1), 1);
        Checks.due("21: the other alone", y.meet(2), 0);
        Checks.due("21: never both", y.meet(3), Checks.NONE);
        Checks.due("21: of two", y.meet(4), Checks.BEYOND);
    }

    private static void meetAtTheEdge() {
        EvenSpring x = new EvenSpring();
        x.calendar(0);
        x.calendar(2);
        for (int c = 0; c < 2; c++) {
            x.set(c, 2, 2);
            x.set(c, 3, 1);
        }
        x.set(1, 4, 2000);
        Checks.due("21: the last day", x.meet(2), 2000);
        x.set(1, 4, 2001);
        Checks.due("21: one behind the last", x.meet(2), Checks.NONE);
        Checks.due("21: nor this", x.meet(1), Checks.NONE);
        x.days(1);
        Checks.due("21: from day 1", x.meet(1), 2001);
    }

    private static void both() {
        EvenSpring x = Checks.ofAllKinds();
        Checks.due("22: this day", x.both(0, 1, 1, 1), 0);
        Checks.due("22: 5 and 16", x.both(0, 5, 2, 16), 64);
        Checks.due("22: 16 and 5", x.both(2, 16, 0, 5), 64);
        Checks.due("22: never", x.both(0, 5, 2, 17), Checks.NONE);
        Checks.due("22: no 31", x.both(0, 31, 1, 31), Checks.NONE);
        x.set(0, 2, 60);
        x.set(1, 2, 60);
        Checks.due("22: 60 and 60", x.both(0, 60, 1, 60), 59);
        Checks.allFind("22: beyond", Checks.BEYOND, x.both(0, 1, 0, 1), x.both(6, 1, 0, 1), x.both(0, 1, 6, 1),
            x.both(-1, 1, 0, 1), x.both(0, 1, -1, 1), x.both(0, 0, 1, 1), x.both(0, 61, 1, 1),
            x.both(0, 1, 1, 0), x.both(0, 1, 1, 61));
        x.days(60);
        Checks.due("22: from now on", x.both(0, 1, 1, 1), 60);
        Checks.due("22: later", x.both(0, 60, 1, 60), 119);
    }

    private static void bothAtTheEdge() {
        EvenSpring x = new EvenSpring();
        x.calendar(2);
        x.calendar(0);
        x.set(0, 2, 2);
        x.set(0, 3, 1);
        x.set(1, 2, 2);
        x.set(0, 4, 2000);
        Checks.due("22: the last day", x.both(0, 2, 1, 1), 2000);
        x.set(0, 4, 2001);
        Checks.due("22: one behind the last", x.both(0, 1, 1, 2), Checks.NONE);
        x.days(1);
        Checks.due("22: from day 1", x.both(0, 1, 1, 2), 2001);
    }
}
