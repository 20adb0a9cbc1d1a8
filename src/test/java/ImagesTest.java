/** Promises 38 to 42: image, undo, tear, count, status. */
public final class ImagesTest {
    public static void main(String[] args) {
        imageAndUndo();
        whatIsNotKept();
        latest();
        tear();
        count();
        status();
        Checks.end();
    }

    private static void imageAndUndo() {
        EvenSpring x = new EvenSpring();
        Checks.due("39: nothing is kept", x.undo(), Checks.NONE);
        x.calendar(3);
        x.calendar(5);
        x.pilgrim(70, 1);
        x.pilgrim(20, -1);
        x.law(0, 8);
        x.days(20);
        x.law(1, 1);
        int[] now = new int[7];
        for (int what = 0; what < 7; what++) {
            now[what] = x.now(what);
        }
        int bathed = x.count(3);
        Checks.due("38: image", x.image(), 1);
        x.days(40);
        x.law(1, 0);
        x.days(20);
        Checks.holds("good jugs came", x.now(3) > now[3]);
        Checks.holds("bad jugs came", x.now(4) > now[4]);
        x.set(0, 2, 5);
        x.turn(1, 0);
        x.calendar(0);
        x.mind(0, 1, -1);
        x.mind(1, 0, 77);
        x.pilgrim(1, 1);
        x.law(0, 50);
        x.law(1, 4);
        Checks.due("39: calendars", x.undo(), 2);
        for (int what = 0; what < 7; what++) {
            Checks.due("39: now(" + what + ")", x.now(what), now[what]);
        }
        Checks.due("39: bathed", x.count(3), bathed);
        Checks.due("39: calendars", x.count(0), 2);
        Checks.due("39: pilgrims", x.count(2), 2);
        Checks.due("39: length", x.of(0, 2), 30);
        Checks.due("39: kind", x.of(1, 0), 5);
        Checks.due("39: trusts", x.about(0, 1), 1);
        x.set(0, 3, 1);
        x.mind(0, 0, 1);
        Checks.due("39: it stays", x.undo(), 2);
        Checks.due("39: left", x.of(0, 3), 11);
        Checks.due("39: a new calendar is new", x.calendar(0), 2);
        Checks.due("39: its length", x.of(2, 2), 30);
        Checks.due("39: a new pilgrim is new", x.pilgrim(3, -1), 2);
        Checks.due("39: bathed", x.about(2, 2), 0);
    }

    private static void whatIsNotKept() {
        EvenSpring x = new EvenSpring();
        x.feed('a', 1);
        x.sheet(0, 8, 2);
        x.image();
        x.feed('b', 1);
        x.write(0, 1, 9);
        x.sheet(1, 8, 1);
        x.calendar(9);
        Checks.due("39: no calendars", x.undo(), 0);
        Checks.due("38: the tape is not kept", x.count(1), 2);
        Checks.due("38: the sheets are not", x.write(0, 1, 0), 9);
        Checks.due("38: nor is this one", x.write(1, 0, 0), 0);
        Checks.due("42: undo takes none back", x.status(-1), 1);
    }

    private static void latest() {
        EvenSpring x = new EvenSpring();
        x.calendar(0);
        x.image();
        x.calendar(0);
        x.image();
        x.calendar(0);
        Checks.due("39: the latest", x.undo(), 2);
        Checks.due("39: again", x.undo(), 2);
    }

    private static void tear() {
        EvenSpring x = new EvenSpring();
        Checks.due("40: nothing", x.tear(), 0);
        x.image();
        x.calendar(0);
        x.image();
        Checks.due("40: something", x.tear(), 1);
        Checks.due("40: nothing any more", x.tear(), 0);
        Checks.due("39: nothing is kept", x.undo(), Checks.NONE);
        Checks.due("40: all else stays", x.count(0), 1);
    }

    private static void count() {
        EvenSpring x = new EvenSpring();
        x.calendar(0);
        x.calendar(0);
        x.calendar(0);
        x.pilgrim(50, -1);
        x.pilgrim(50, -1);
        x.bathe(0);
        x.days(3);
        Checks.feed(x, "abcde");
        Checks.due("41: calendars", x.count(0), 3);
        Checks.due("41: bytes", x.count(1), 5);
        Checks.due("41: pilgrims", x.count(2), 2);
        Checks.due("41: bathed", x.count(3), 7);
        Checks.allFind("41: beyond", Checks.BEYOND, x.count(4), x.count(-1));
    }

    private static void status() {
        EvenSpring x = new EvenSpring();
        for (int which = -1; which < 7; which++) {
            Checks.due("42: none yet", x.status(which), 0);
        }
        x.calendar(9);
        for (int i = 0; i < 30; i++) {
            x.feed(0, 4);
        }
        for (int i = 0; i < 2; i++) {
            x.feed(0, 4);
        }
        x.calendar(1);
        for (int i = 0; i < 3; i++) {
            x.as(0, 2);
        }
        for (int i = 0; i < 4; i++) {
            x.undo();
        }
        x.pilgrim(0, -1);
        for (int i = 0; i < 5; i++) {
            x.cure(0);
        }
        for (int i = 0; i < 6; i++) {
            x.lays(0);
        }
        for (int i = 0; i < 7; i++) {
            x.sheet(0, 8, -1);
        }
        for (int which = 0; which < 7; which++) {
            Checks.due("42: status(" + which + ")", x.status(which), which + 1);
        }
        Checks.due("42: all", x.status(-1), 28);
        Checks.allFind("42: beyond", Checks.BEYOND, x.status(7), x.status(-2));
        Checks.due("42: counted from then on", x.status(0), 3);
        Checks.due("42: all", x.status(-1), 30);
    }
}
