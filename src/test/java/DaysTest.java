/** Promises 14 to 17: days, now, on, well. */
public final class DaysTest {
    public static void main(String[] args) {
        days();
        daysWithoutTruth();
        jugsAreHeld();
        lastDay();
        now();
        on();
        well();
        wellAtTheEdge();
        Checks.end();
    }

    private static void days() {
        EvenSpring x = Checks.ofAllKinds();
        x.pilgrim(30, 0);
        x.pilgrim(10, -1);
        x.pilgrim(0, -1);
        x.pilgrim(99, 5);
        Checks.due("14: one well", x.days(1), 1);
        Checks.due("14: not by 0 on day 0", x.about(0, 0), 30);
        Checks.due("14: every day", x.about(1, 0), 15);
        Checks.due("14: a well one does not bathe", x.about(2, 2), 0);
        Checks.due("14: monk on day 0", x.about(3, 0), 99);
        Checks.due("14: one well", x.days(1), 1);
        Checks.due("14: holy by 0 on day 1", x.about(0, 0), 20);
        Checks.due("14: every day", x.about(1, 0), 5);
        Checks.due("14: monk on day 1", x.about(3, 0), 89);
        Checks.due("14: no jug yet", x.now(3) + x.now(4), 0);
        Checks.due("14: day", x.now(0), 2);
        x.days(1);
        Checks.due("14: a bad jug", x.now(4), 1);
        Checks.due("14: no good one", x.now(3), 0);
        Checks.due("14: two well", x.days(3), 3);
        Checks.due("14: well by day 5", x.about(0, 0), 0);
        Checks.due("14: bathed thrice", x.about(0, 2), 3);
        x.days(4);
        Checks.due("14: a good jug on day 9", x.now(3), 1);
        Checks.allFind("14: beyond", Checks.BEYOND, x.days(0), x.days(-1), x.days(401));
        Checks.due("14: day", x.now(0), 10);
    }

    private static void daysWithoutTruth() {
        EvenSpring x = new EvenSpring();
        x.calendar(0);
        x.law(1, 5);
        x.pilgrim(50, 0);
        x.days(10);
        Checks.due("14: harmed on five days", x.about(0, 0), 75);
        Checks.due("14: only bad jugs", x.now(3), 0);
        Checks.due("14: bad jugs", x.now(4), 2);
    }

    private static void jugsAreHeld() {
        EvenSpring x = new EvenSpring();
        x.calendar(0);
        for (int i = 0; i < 4; i++) {
            x.days(400);
        }
        Checks.due("14: good jugs are held", x.now(3), 99);
        Checks.due("14: bad jugs are held", x.now(4), 99);
    }

    private static void lastDay() {
        EvenSpring x = new EvenSpring();
        x.calendar(0);
        x.pilgrim(99, 0);
        for (int i = 0; i < 249; i++) {
            x.days(400);
        }
        Checks.due("14: day", x.now(0), 99600);
        Checks.due("14: above 99999", x.days(400), Checks.STATE);
        Checks.due("14: beyond comes first", x.days(401), Checks.BEYOND);
        Checks.due("14: up to 99999", x.days(399), 1);
        Checks.due("14: day", x.now(0), 99999);
        Checks.due("14: above 99999", x.days(1), Checks.STATE);
        x.mind(0, 0, 99);
        Checks.due("16: on goes on behind it", x.on(0, 400, 0), 0);
        Checks.due("17: well", x.well(0), 19);
        Checks.due("18: next", x.next(0), 99999);
        x.set(0, 1, 1);
        Checks.due("18: next behind it", x.next(0), 100000);
    }

    private static void now() {
        EvenSpring x = new EvenSpring();
        x.calendar(0);
        x.pilgrim(20, 0);
        x.pilgrim(0, 0);
        x.pilgrim(31, 0);
        x.pilgrim(0, 0);
        x.law(0, 12);
        x.law(1, 4);
        Checks.due("15: power", x.now(1), 12);
        Checks.due("15: truth", x.now(2), 4);
        Checks.due("15: ill of all", x.now(5), 51);
        Checks.due("15: the well ones", x.now(6), 10);
        x.days(3);
        Checks.due("15: day", x.now(0), 3);
        Checks.due("15: good jugs", x.now(3), 0);
        Checks.due("15: bad jugs", x.now(4), 1);
        Checks.due("15: ill of all", x.now(5), 63);
        Checks.allFind("15: beyond", Checks.BEYOND, x.now(-1), x.now(7));
    }

    private static void on() {
        EvenSpring x = Checks.ofAllKinds();
        x.pilgrim(80, 0);
        x.pilgrim(80, -1);
        Checks.due("16: 0 days", x.on(0, 0, 0), 80);
        Checks.due("16: 1 day", x.on(0, 1, 0), 80);
        Checks.due("16: 2 days", x.on(0, 2, 0), 70);
        Checks.due("16: 15 days", x.on(0, 15, 0), 10);
        Checks.due("16: 16 days", x.on(0, 16, 0), 0);
        Checks.due("16: 400 days", x.on(0, 400, 1), 8);
        Checks.due("16: every day", x.on(1, 3, 0), 80);
        Checks.due("16: every day", x.on(1, 3, 1), 3);
        Checks.allFind("16: beyond", Checks.BEYOND, x.on(2, 1, 0), x.on(-1, 1, 0), x.on(0, -1, 0),
            x.on(0, 401, 0), x.on(0, 1, 2), x.on(0, 1, -1));
        Checks.due("16: nothing changes", x.now(0) + x.now(3) + x.now(4) + x.count(3), 0);
        Checks.due("16: nothing changes", x.now(5), 160);
    }

    private static void well() {
        EvenSpring x = new EvenSpring();
        x.calendar(0);
        x.pilgrim(0, 0);
        x.pilgrim(10, 0);
        x.pilgrim(80, -1);
        Checks.due("17: now", x.well(0), 0);
        Checks.due("17: in 2", x.well(1), 2);
        Checks.due("17: in 32", x.well(2), 32);
        Checks.allFind("17: beyond", Checks.BEYOND, x.well(3), x.well(-1));
        x.law(1, 1);
        Checks.due("17: never", x.well(1), Checks.NONE);
        Checks.due("17: nothing changes", x.now(0) + x.count(3), 0);
        x.law(1, 0);
        x.days(1);
        Checks.due("17: in 1", x.well(1), 1);
    }

    /** By months of two days every other day is holy, and LEFT 1 changes which from REFORM on. */
    private static void wellAtTheEdge() {
        EvenSpring x = new EvenSpring();
        x.calendar(2);
        x.set(0, 2, 2);
        x.set(0, 3, 1);
        x.set(0, 4, 400);
        x.calendar(2);
        x.set(1, 2, 2);
        x.set(1, 1, 1);
        x.set(1, 3, 1);
        x.set(1, 4, 399);
        x.law(0, 1);
        x.pilgrim(1, 0);
        x.law(1, 0);
        Checks.due("17: soon", x.well(0), 2);
        // POWER 1 does no harm on wrong days; 0 and 1 are holy together on day 399 alone.
        x.mind(0, 1, 1);
        Checks.due("17: in 400 days", x.well(0), 400);
        x.set(0, 4, 9999);
        x.set(1, 4, 400);
        // Now day 401 is the first that is holy by both.
        Checks.due("17: not within 400", x.well(0), Checks.NONE);
        x.days(1);
        Checks.due("17: in 401 days", x.well(0), Checks.NONE);
        x.days(1);
        Checks.due("17: in 400 days", x.well(0), 400);
        x.days(1);
        Checks.due("17: in 399 days", x.well(0), 399);
    }
}
