/** Promises 23 to 28: trust, truth, cure, kind, begin, power. */
public final class BestTest {
    public static void main(String[] args) {
        trust();
        trustWithinTheDays();
        truth();
        cure();
        cureAtTheEdge();
        kind();
        kindOfTruthItself();
        begin();
        beginOfTruthItself();
        power();
        Checks.end();
    }

    private static void trust() {
        EvenSpring x = new EvenSpring();
        x.pilgrim(50, -1);
        x.pilgrim(0, -1);
        Checks.due("23: by nothing", x.trust(0), Checks.NONE);
        Checks.due("23: it is well, without calendars", x.trust(1), -1);
        x.calendar(0);
        x.calendar(0);
        x.calendar(0);
        x.law(1, 1);
        x.set(0, 1, 1);
        Checks.due("23: of several the least", x.trust(0), 1);
        Checks.due("23: it is well, so the least", x.trust(1), 0);
        x.set(0, 1, 0);
        Checks.due("23: of three the least", x.trust(0), 0);
        Checks.allFind("23: beyond", Checks.BEYOND, x.trust(2), x.trust(-1));
        Checks.due("23: nothing changes", x.about(0, 1), -1);
        // LEAP with months of one day is holy every day, so to bathe every day is no sooner.
        EvenSpring y = new EvenSpring();
        y.calendar(0);
        y.calendar(4);
        y.set(1, 2, 1);
        y.law(1, 1);
        y.pilgrim(50, 0);
        Checks.due("23: as soon as every day", y.trust(0), 1);
        y.set(0, 2, 1);
        y.turn(1, 0);
        y.set(1, 2, 4);
        Checks.due("23: by truth", y.trust(0), 1);
        y.law(1, 5);
        Checks.due("23: no truth, by nothing", y.trust(0), Checks.NONE);
    }

    private static void trustWithinTheDays() {
        EvenSpring x = new EvenSpring();
        x.calendar(2);
        x.calendar(2);
        x.calendar(0);
        x.set(0, 2, 1);
        x.set(1, 2, 1);
        x.law(0, 1);
        x.pilgrim(1, 0);
        Checks.due("23: no day is holy by truth", x.trust(0), Checks.NONE);
        // By the months of one day no day is holy, so only 2 has days to bathe on.
        x.law(1, 2);
        Checks.due("23: the only one with holy days", x.trust(0), 2);
        // 0 is holy on day 0, on which truth is not; then on day 2, when truth is.
        x.set(0, 2, 2);
        x.set(0, 1, 1);
        x.set(2, 2, 3);
        Checks.due("23: truth is sooner", x.trust(0), 2);
        x.mind(0, 0, 99);
        Checks.due("23: 99 holy days", x.trust(0), 2);
        x.set(2, 2, 5);
        Checks.due("23: 160 holy days", x.trust(0), 2);
    }

    private static void truth() {
        EvenSpring x = new EvenSpring();
        Checks.due("24: there is none", x.truth(1), Checks.NONE);
        Checks.due("24: beyond comes first", x.truth(0), Checks.BEYOND);
        x.calendar(0);
        x.calendar(0);
        x.calendar(4);
        x.set(1, 1, 1);
        Checks.due("24: nobody is ill, the least", x.truth(100), 0);
        x.pilgrim(90, -1);
        Checks.due("24: holy on day 0", x.truth(1), 1);
        Checks.due("24: of several the least", x.truth(2), 2);
        x.set(2, 2, 1);
        Checks.due("24: leap, every day", x.truth(3), 2);
        x.mind(0, 1, 0);
        x.turn(2, 0);
        Checks.due("24: what it trusts", x.truth(10), 0);
        x.pilgrim(90, 1);
        x.pilgrim(90, 1);
        Checks.due("24: of all", x.truth(100), 1);
        Checks.allFind("24: beyond", Checks.BEYOND, x.truth(0), x.truth(101), x.truth(-1));
        Checks.due("24: nothing changes", x.now(2) + x.now(0), 0);
        Checks.due("24: nothing changes", x.now(5), 270);
    }

    private static void cure() {
        EvenSpring x = new EvenSpring();
        x.calendar(0);
        x.calendar(0);
        x.set(1, 1, 1);
        x.pilgrim(80, 1);
        x.pilgrim(0, 1);
        x.pilgrim(10, -1);
        Checks.due("25: the eighth holy day", x.cure(0), 15);
        Checks.due("25: it is well", x.cure(1), Checks.STATE);
        Checks.due("25: the first holy day", x.cure(2), 1);
        Checks.allFind("25: beyond", Checks.BEYOND, x.cure(3), x.cure(-1));
        x.law(1, 2);
        Checks.due("25: no truth", x.cure(0), Checks.NONE);
        Checks.due("25: it is well all the same", x.cure(1), Checks.STATE);
        x.law(1, 0);
        x.days(1);
        Checks.due("25: 15 by now", x.cure(2), 3);
        x.mind(2, 0, 10);
        Checks.due("25: this day itself", x.cure(2), 1);
        Checks.due("25: nothing changes", x.about(2, 0), 10);
    }

    private static void cureAtTheEdge() {
        EvenSpring x = new EvenSpring();
        x.calendar(2);
        x.set(0, 2, 60);
        x.law(0, 3);
        x.pilgrim(99, -1);
        Checks.due("25: 33 holy days, 3 each", x.cure(0), dayOfHoly(x, 33));
        // A month of 1 has no holy day; a COG with it has every other.
        x.turn(0, 3);
        x.set(0, 2, 1);
        x.law(0, 1);
        Checks.due("25: 99 holy days by cog", x.cure(0), dayOfHoly(x, 99));
        x.set(0, 2, 1);
        x.turn(0, 0);
        Checks.due("25: no holy day", x.cure(0), Checks.NONE);
    }

    private static int dayOfHoly(EvenSpring x, int n) {
        int day = -1;
        for (int left = n; left > 0;) {
            day++;
            left -= x.date(0, day, 2);
        }
        return day;
    }

    private static void kind() {
        EvenSpring x = Checks.ofAllKinds();
        for (int t = 0; t < 6; t++) {
            x.law(1, t);
            // OLD is as COUNT in all, and COUNT is less.
            int due = t == 1 ? 0 : t;
            Checks.due("26: kind as truth " + t, x.kind(0, 400), due);
            Checks.due("26: truth agrees with itself as any kind " + t, x.kind(t, 400), 0);
        }
        x.law(1, 2);
        Checks.due("26: before the reform, the least", x.kind(5, 50), 0);
        Checks.due("26: 200 days", x.kind(5, 200), 2);
        x.law(1, 4);
        Checks.due("26: leap is told by day 0", x.kind(0, 1), 4);
        x.law(1, 0);
        x.set(0, 3, 0);
        x.set(2, 1, 1);
        Checks.due("26: its own begin", x.kind(2, 60), bestKind(x, 2, 60));
        Checks.allFind("26: beyond", Checks.BEYOND, x.kind(6, 1), x.kind(-1, 1), x.kind(0, 0), x.kind(0, 401));
        for (int c = 0; c < 6; c++) {
            Checks.due("26: nothing changes", x.of(c, 0), c);
        }
        EvenSpring y = new EvenSpring();
        y.calendar(0);
        y.law(1, 1);
        Checks.due("26: no truth", y.kind(0, 1), Checks.STATE);
        Checks.due("26: beyond comes first", y.kind(1, 1), Checks.BEYOND);
        Checks.due("26: beyond comes first", y.kind(0, 401), Checks.BEYOND);
    }

    private static void kindOfTruthItself() {
        EvenSpring x = Checks.ofAllKinds();
        x.set(4, 1, 7);
        x.days(60);
        x.law(1, 4);
        Checks.due("26: truth itself, for 1 day", x.kind(4, 1), 0);
        Checks.due("26: truth itself, for all", x.kind(4, 400), 0);
        Checks.allFind("26: truth itself, beyond", Checks.BEYOND, x.kind(4, 0), x.kind(4, 401));
        Checks.due("26: truth itself stays of its kind", x.of(4, 0), 4);
        // One that is as truth is, but isn't truth, is best as what truth is.
        x.turn(0, 4);
        x.set(0, 1, 7);
        Checks.due("26: its like is not truth", x.kind(0, 400), 4);
        x.law(1, 0);
        Checks.due("26: truth is another now", x.kind(4, 400), 4);
        Checks.due("26: and agrees with itself", x.kind(0, 400), 0);
    }

    /** By turning it for good and asking agree; for a calendar that is not truth. */
    private static int bestKind(EvenSpring x, int calendar, int n) {
        int was = x.of(calendar, 0);
        int best = 0;
        int most = -1;
        for (int k = 0; k < 6; k++) {
            x.turn(calendar, k);
            int agreed = x.agree(calendar, x.now(2), n);
            if (agreed > most) {
                most = agreed;
                best = k;
            }
        }
        x.turn(calendar, was);
        return best;
    }

    private static void begin() {
        EvenSpring x = new EvenSpring();
        x.calendar(0);
        x.calendar(3);
        x.calendar(2);
        x.set(0, 2, 59);
        x.set(2, 2, 59);
        x.set(0, 1, 38);
        x.set(2, 3, 0);
        Checks.due("27: as truth", x.begin(2, 100), 38);
        Checks.due("27: truth agrees with itself with any begin", x.begin(0, 100), 0);
        Checks.due("27: for 1 day, 39 is odd", x.begin(2, 1), 0);
        x.set(0, 1, 37);
        Checks.due("27: for 1 day, 38 is even", x.begin(2, 1), 1);
        x.set(0, 1, 38);
        x.set(1, 2, 60);
        x.set(1, 1, 99);
        x.law(1, 1);
        Checks.due("27: truth by cog, a length of 60", x.begin(1, 100), 0);
        x.set(2, 2, 60);
        Checks.due("27: of another kind", x.begin(2, 100), bestBegin(x, 2, 1, 100));
        x.turn(0, 3);
        x.set(0, 2, 60);
        Checks.due("27: 99 by cog", x.begin(0, 100), bestBegin(x, 0, 1, 100));
        Checks.allFind("27: beyond", Checks.BEYOND, x.begin(3, 1), x.begin(-1, 1), x.begin(0, 0), x.begin(0, 101));
        Checks.due("27: nothing changes", x.of(0, 1), 38);
        x.law(1, 3);
        Checks.due("27: no truth", x.begin(0, 1), Checks.STATE);
        Checks.due("27: beyond comes first", x.begin(3, 1), Checks.BEYOND);
    }

    private static void beginOfTruthItself() {
        EvenSpring x = new EvenSpring();
        x.calendar(0);
        x.calendar(0);
        x.law(1, 1);
        x.set(0, 1, 1);
        x.set(1, 1, 1);
        Checks.due("27: truth itself, for 1 day", x.begin(1, 1), 0);
        Checks.due("27: truth itself, for all", x.begin(1, 100), 0);
        Checks.allFind("27: truth itself, beyond", Checks.BEYOND, x.begin(1, 0), x.begin(1, 101));
        Checks.due("27: truth itself keeps its begin", x.of(1, 1), 1);
        Checks.due("27: its like is not truth", x.begin(0, 1), 1);
        x.law(1, 0);
        Checks.due("27: truth is another now", x.begin(1, 1), 1);
        Checks.due("27: and agrees with itself", x.begin(0, 1), 0);
    }

    /** From dates alone; for a calendar that is not truth. */
    private static int bestBegin(EvenSpring x, int calendar, int truth, int n) {
        int[] holy = new int[n];
        for (int d = 0; d < n; d++) {
            holy[d] = x.date(truth, d, 2);
        }
        int was = x.of(calendar, 1);
        int best = -1;
        int most = -1;
        for (int b = 0; b < 100; b++) {
            x.set(calendar, 1, b);
            int agreed = 0;
            for (int d = 0; d < n; d++) {
                agreed += x.date(calendar, d, 2) == holy[d] ? 1 : 0;
            }
            if (agreed > most) {
                most = agreed;
                best = b;
            }
        }
        x.set(calendar, 1, was);
        return best;
    }

    private static void power() {
        EvenSpring x = new EvenSpring();
        Checks.due("28: nobody, the least", x.power(1), 1);
        x.calendar(0);
        x.pilgrim(50, 0);
        Checks.due("28: one holy day in 2", x.power(2), 50);
        Checks.due("28: none in 1", x.power(1), 1);
        Checks.due("28: two holy days", x.power(4), 25);
        Checks.due("28: 50 holy days", x.power(100), 1);
        x.pilgrim(99, 0);
        Checks.due("28: most, not all", x.power(2), 50);
        Checks.due("28: both", x.power(4), 50);
        Checks.due("28: both by 99", x.power(20), 10);
        x.law(0, 3);
        Checks.due("28: whatever it is now", x.power(20), 10);
        Checks.allFind("28: beyond", Checks.BEYOND, x.power(0), x.power(101), x.power(-1));
        Checks.due("28: nothing changes", x.now(1), 3);
        Checks.due("28: nothing changes", x.now(5), 149);
    }
}
