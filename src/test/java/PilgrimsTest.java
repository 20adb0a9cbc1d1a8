/** Promises 9 to 13: pilgrim, about, mind, drink, bathe. */
public final class PilgrimsTest {
    public static void main(String[] args) {
        pilgrim();
        about();
        mind();
        drink();
        bathe();
        batheWithoutTruth();
        bathedIsHeld();
        Checks.end();
    }

    private static void pilgrim() {
        EvenSpring x = new EvenSpring();
        Checks.allFind("9: beyond", Checks.BEYOND, x.pilgrim(-1, -1), x.pilgrim(100, -1), x.pilgrim(5, 0),
            x.pilgrim(5, -2));
        Checks.due("9: none came", x.count(2), 0);
        x.calendar(0);
        Checks.due("9: pilgrim", x.pilgrim(0, 0), 0);
        for (int p = 1; p < 8; p++) {
            Checks.due("9: pilgrim", x.pilgrim(99, -1), p);
        }
        Checks.due("9: full", x.pilgrim(5, 0), Checks.FULL);
        Checks.allFind("9: asked first", Checks.BEYOND, x.pilgrim(100, 0), x.pilgrim(5, 1));
        Checks.due("9: eight", x.count(2), 8);
    }

    private static void about() {
        EvenSpring x = new EvenSpring();
        Checks.due("10: none yet", x.about(0, 0), Checks.BEYOND);
        x.calendar(0);
        x.calendar(1);
        x.pilgrim(40, 1);
        x.pilgrim(41, -1);
        x.bathe(1);
        Checks.due("10: ill", x.about(0, 0), 40);
        Checks.due("10: trusts", x.about(0, 1), 1);
        Checks.due("10: bathed", x.about(0, 2), 0);
        Checks.due("10: ill", x.about(1, 0), 46);
        Checks.due("10: trusts none", x.about(1, 1), -1);
        Checks.due("10: bathed", x.about(1, 2), 1);
        Checks.allFind("10: beyond", Checks.BEYOND, x.about(2, 0), x.about(-1, 0), x.about(0, 3), x.about(0, -1));
    }

    private static void mind() {
        EvenSpring x = new EvenSpring();
        x.calendar(0);
        x.calendar(0);
        x.pilgrim(40, 1);
        Checks.due("11: ill", x.mind(0, 0, 99), 40);
        Checks.due("11: ill", x.mind(0, 0, 0), 99);
        Checks.due("11: trusts", x.mind(0, 1, 0), 1);
        Checks.due("11: trusts", x.mind(0, 1, -1), 0);
        Checks.due("11: trusts", x.mind(0, 1, 1), -1);
        Checks.allFind("11: beyond", Checks.BEYOND, x.mind(0, 0, 100), x.mind(0, 0, -1), x.mind(0, 1, 2),
            x.mind(0, 1, -2), x.mind(0, 2, 0), x.mind(0, -1, 0), x.mind(1, 0, 0), x.mind(-1, 0, 0));
        Checks.due("11: ill stays", x.about(0, 0), 0);
        Checks.due("11: trust stays", x.about(0, 1), 1);
    }

    private static void drink() {
        EvenSpring x = new EvenSpring();
        x.calendar(0);
        x.pilgrim(0, 0);
        x.pilgrim(96, 0);
        x.mind(0, 0, 0);
        Checks.due("12: no good jug", x.drink(0, 1), Checks.STATE);
        Checks.due("12: no bad jug", x.drink(0, 0), Checks.STATE);
        Checks.allFind("12: beyond comes first", Checks.BEYOND, x.drink(2, 0), x.drink(-1, 0), x.drink(0, 2),
            x.drink(0, -1));
        x.law(0, 7);
        x.mind(1, 0, 0);
        x.days(20);
        Checks.due("12: good jugs", x.now(3), 1);
        Checks.due("12: bad jugs", x.now(4), 2);
        Checks.due("12: half of 7 is 3", x.drink(0, 0), 3);
        Checks.due("12: one is gone", x.now(4), 1);
        Checks.due("12: 0 at least", x.drink(0, 1), 0);
        Checks.due("12: it is gone", x.now(3), 0);
        x.mind(1, 0, 97);
        Checks.due("12: no good one any more", x.drink(1, 1), Checks.STATE);
        Checks.due("12: 99 at most", x.drink(1, 0), 99);
        Checks.due("12: no bad one any more", x.drink(1, 0), Checks.STATE);
        Checks.due("12: nobody bathed", x.count(3), 0);
        Checks.due("12: ill", x.about(1, 0), 99);
        x.days(7);
        Checks.due("12: a good jug", x.now(3), 1);
        x.mind(1, 0, 50);
        Checks.due("12: 7 less", x.drink(1, 1), 43);
    }

    private static void bathe() {
        EvenSpring x = new EvenSpring();
        x.calendar(0);
        x.calendar(2);
        x.pilgrim(50, 1);
        Checks.due("13: harms on day 0", x.bathe(0), 55);
        x.law(0, 9);
        Checks.due("13: half of 9 is 4", x.bathe(0), 59);
        x.set(0, 1, 1);
        Checks.due("13: heals now", x.bathe(0), 50);
        Checks.due("13: bathed", x.about(0, 2), 3);
        x.mind(0, 0, 5);
        Checks.due("13: 0 at least", x.bathe(0), 0);
        Checks.due("13: a well one bathes, too", x.bathe(0), 0);
        Checks.due("13: bathed", x.about(0, 2), 5);
        x.set(0, 1, 0);
        Checks.due("13: a well one is harmed", x.bathe(0), 4);
        x.mind(0, 0, 97);
        Checks.due("13: 99 at most", x.bathe(0), 99);
        x.law(0, 1);
        x.mind(0, 0, 5);
        Checks.due("13: half of 1 is 0", x.bathe(0), 5);
        Checks.allFind("13: beyond", Checks.BEYOND, x.bathe(1), x.bathe(-1));
        Checks.due("13: no jug, no day", x.now(0) + x.now(3) + x.now(4), 0);
    }

    private static void batheWithoutTruth() {
        EvenSpring x = new EvenSpring();
        x.calendar(0);
        x.set(0, 1, 1);
        x.pilgrim(50, -1);
        x.law(1, 1);
        Checks.due("13: no such calendar, so it harms", x.bathe(0), 55);
        x.law(1, 0);
        Checks.due("13: holy by 0", x.bathe(0), 45);
    }

    private static void bathedIsHeld() {
        EvenSpring x = new EvenSpring();
        x.pilgrim(99, -1);
        for (int i = 0; i < 24; i++) {
            x.days(400);
        }
        Checks.due("14: bathed every day", x.about(0, 2), 9600);
        x.days(399);
        Checks.due("14: bathed", x.about(0, 2), 9999);
        x.bathe(0);
        Checks.due("13: held", x.about(0, 2), 9999);
        x.days(1);
        Checks.due("14: held", x.about(0, 2), 9999);
        Checks.due("16: held", x.on(0, 400, 1), 9999);
        Checks.due("41: held", x.count(3), 9999);
        Checks.due("15: bad jugs are held", x.now(4), 99);
    }
}
