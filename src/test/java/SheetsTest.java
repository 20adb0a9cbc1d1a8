/** Promises 32 to 37: sheet, write, copy, lays, book, read. */
public final class SheetsTest {
    public static void main(String[] args) {
        sheet();
        write();
        copy();
        copyWithin();
        lays();
        book();
        read();
        readFindings();
        Checks.end();
    }

    private static void sheet() {
        EvenSpring x = new EvenSpring();
        Checks.due("32: 40", x.sheet(0, 8, 40), 40);
        Checks.due("32: 0", x.sheet(3, 64, 0), 0);
        Checks.due("32: 5", x.sheet(1, 16, 5), 5);
        Checks.allFind("32: beyond", Checks.BEYOND, x.sheet(-1, 8, 1), x.sheet(4, 8, 1), x.sheet(0, 32, 1),
            x.sheet(0, 7, 1), x.sheet(0, -8, 1), x.sheet(4, 8, -1), x.sheet(0, 1, -1), x.sheet(0, 8, 41),
            x.sheet(0, 0, 41), x.sheet(0, 8, Integer.MAX_VALUE));
        Checks.allFind("32: size", Checks.SIZE, x.sheet(0, 8, -1), x.sheet(0, 0, -1),
            x.sheet(2, 64, Integer.MIN_VALUE));
        Checks.due("32: it stays", x.write(0, 39, 7), 0);
        x.write(0, 0, 7);
        Checks.due("32: bits 0", x.sheet(0, 0, 40), 0);
        Checks.due("32: it is missing", x.write(0, 0, 1), Checks.MISSING);
        Checks.due("32: anew", x.sheet(0, 8, 40), 40);
        Checks.due("32: all 0", x.write(0, 39, 5), 0);
        Checks.due("32: all 0", x.write(0, 0, 5), 0);
        Checks.due("32: over it", x.sheet(0, 64, 40), 40);
        Checks.due("32: all 0", x.write(0, 39, 5), 0);
        Checks.due("42: sizes", x.status(6), 3);
    }

    private static void write() {
        EvenSpring x = new EvenSpring();
        x.sheet(0, 8, 2);
        x.sheet(1, 16, 2);
        x.sheet(2, 64, 2);
        long v = 0x123456789abcdef0L;
        Checks.due("33: first", x.write(0, 0, v), 0);
        Checks.due("33: 8 bits", x.write(0, 0, 127), (byte) v);
        Checks.due("33: 127", x.write(0, 0, 128), 127);
        Checks.due("33: 128", x.write(0, 0, 256), -128);
        Checks.due("33: 256", x.write(0, 0, 0), 0);
        Checks.due("33: the other one", x.write(0, 1, 0), 0);
        x.write(1, 1, v);
        Checks.due("33: 16 bits", x.write(1, 1, 32768), (short) v);
        Checks.due("33: 32768", x.write(1, 1, 65536 + 300), -32768);
        Checks.due("33: 65836", x.write(1, 1, 0), 300);
        x.write(2, 1, v);
        Checks.due("33: 64 bits", x.write(2, 1, Long.MIN_VALUE), v);
        Checks.due("33: the least", x.write(2, 1, Checks.BEYOND), Long.MIN_VALUE);
        Checks.due("33: no finding, though it looks like one", x.write(2, 1, 0), Checks.BEYOND);
        Checks.due("42: none", x.status(-1), 0);
        Checks.allFind("33: beyond", Checks.BEYOND, x.write(-1, 0, 0), x.write(4, 0, 0), x.write(0, -1, 0),
            x.write(0, 2, 0));
        Checks.allFind("33: missing", Checks.MISSING, x.write(3, 0, 0), x.write(3, -1, 0), x.write(3, 40, 0));
        x.sheet(3, 8, 0);
        Checks.due("33: it has none", x.write(3, 0, 0), Checks.BEYOND);
    }

    private static void copy() {
        EvenSpring x = new EvenSpring();
        x.sheet(0, 8, 5);
        x.sheet(1, 8, 3);
        x.sheet(2, 16, 5);
        for (int i = 0; i < 5; i++) {
            x.write(0, i, i + 1);
        }
        Checks.due("34: two", x.copy(0, 3, 1, 1, 2), 2);
        int[] due = {0, 4, 5};
        for (int i = 0; i < 3; i++) {
            Checks.due("34: number " + i, x.write(1, i, due[i]), due[i]);
        }
        Checks.due("34: none at the end", x.copy(0, 5, 1, 3, 0), 0);
        Checks.allFind("34: no such sheet", Checks.BEYOND, x.copy(-1, 0, 0, 0, 1), x.copy(0, 0, 4, 0, 1),
            x.copy(4, 0, 3, 0, 1), x.copy(3, 0, -1, 0, 1));
        Checks.allFind("34: missing", Checks.MISSING, x.copy(3, 0, 0, 0, 1), x.copy(0, 0, 3, 0, 1),
            x.copy(3, -1, 3, -1, -1));
        Checks.allFind("34: kind", Checks.KIND, x.copy(0, 0, 2, 0, 1), x.copy(2, -1, 0, 0, 1));
        Checks.allFind("34: not so many", Checks.BEYOND, x.copy(0, 0, 1, 0, 4), x.copy(0, 4, 1, 0, 2),
            x.copy(0, 0, 1, 2, 2), x.copy(0, -1, 1, 0, 1), x.copy(0, 0, 1, -1, 1), x.copy(0, 0, 1, 0, -1),
            x.copy(0, Integer.MAX_VALUE, 1, 0, 2), x.copy(0, 2, 1, 0, Integer.MAX_VALUE),
            x.copy(0, 6, 1, 0, 0), x.copy(0, 0, 1, 4, 0));
        Checks.due("34: it stays", x.write(1, 0, 0), 0);
    }

    private static void copyWithin() {
        EvenSpring x = new EvenSpring();
        x.sheet(0, 64, 5);
        for (int i = 0; i < 5; i++) {
            x.write(0, i, i + 1);
        }
        Checks.due("34: up", x.copy(0, 0, 0, 1, 4), 4);
        int[] up = {1, 1, 2, 3, 4};
        for (int i = 0; i < 5; i++) {
            Checks.due("34: up, number " + i, x.write(0, i, i + 1), up[i]);
        }
        Checks.due("34: down", x.copy(0, 1, 0, 0, 4), 4);
        int[] down = {2, 3, 4, 5, 5};
        for (int i = 0; i < 5; i++) {
            Checks.due("34: down, number " + i, x.write(0, i, 0), down[i]);
        }
    }

    private static void lays() {
        EvenSpring x = new EvenSpring();
        for (int p = 0; p < 5; p++) {
            x.pilgrim(50 + p, -1);
        }
        x.sheet(0, 64, 7);
        long[] numbers = {99, -1, 0, 100, (1L << 32) + 5, 6, 7};
        for (int i = 0; i < 7; i++) {
            x.write(0, i, numbers[i]);
        }
        Checks.due("35: two came", x.lays(0), 2);
        int[] due = {99, 51, 0, 53, 54};
        for (int p = 0; p < 5; p++) {
            Checks.due("35: ill of " + p, x.about(p, 0), due[p]);
            Checks.due("35: bathed stays", x.about(p, 2), 0);
        }
        x.sheet(1, 8, 1);
        Checks.due("35: a short one", x.lays(1), 1);
        Checks.due("35: ill of 0", x.about(0, 0), 0);
        Checks.due("35: ill of 1", x.about(1, 0), 51);
        x.sheet(1, 8, 0);
        Checks.due("35: an empty one", x.lays(1), 0);
        Checks.allFind("35: beyond", Checks.BEYOND, x.lays(-1), x.lays(4));
        Checks.due("35: missing", x.lays(2), Checks.MISSING);
    }

    private static void book() {
        EvenSpring x = new EvenSpring();
        x.calendar(0);
        x.pilgrim(90, 0);
        x.pilgrim(12, -1);
        x.sheet(0, 8, 40);
        x.sheet(1, 16, 3);
        Checks.due("36: forty", x.book(0, 0), 40);
        for (int i = 0; i < 40; i++) {
            Checks.due("36: ill on " + i, x.write(0, i, 0), x.on(0, i, 0));
        }
        Checks.due("36: three", x.book(1, 1), 3);
        int[] due = {12, 17, 7};
        for (int i = 0; i < 3; i++) {
            Checks.due("36: number " + i, x.write(1, i, 0), due[i]);
        }
        Checks.due("36: nothing changes", x.now(0) + x.count(3), 0);
        Checks.due("36: nothing changes", x.now(5), 102);
        Checks.allFind("36: beyond", Checks.BEYOND, x.book(-1, 0), x.book(4, 0), x.book(0, 2), x.book(0, -1),
            x.book(4, 9));
        Checks.allFind("36: missing comes ahead of the pilgrim", Checks.MISSING, x.book(2, 0), x.book(2, 9));
        x.sheet(2, 64, 0);
        Checks.due("36: none", x.book(2, 0), 0);
        Checks.due("36: no such pilgrim all the same", x.book(2, 2), Checks.BEYOND);
    }

    private static void read() {
        EvenSpring x = new EvenSpring();
        x.pilgrim(50, -1);
        x.sheet(0, 8, 0);
        Checks.due("37: no calendars", x.read(0, 0), 0);
        x.calendar(0);
        x.calendar(0);
        x.set(1, 1, 1);
        Checks.due("37: an empty sheet, all pairs", x.read(0, 0), 6);
        x.sheet(0, 8, 1);
        Checks.due("37: it is not 0", x.read(0, 0), 0);
        x.write(0, 0, 50);
        Checks.due("37: now, all pairs", x.read(0, 0), 6);
        x.sheet(0, 8, 2);
        x.write(0, 0, 50);
        x.write(0, 1, 55);
        // Day 0 is holy by 1 alone: it bathes by -1 or 1, and is harmed if 0 is true.
        Checks.due("37: harmed on day 0", x.read(0, 0), 2);
        x.write(0, 1, 40);
        Checks.due("37: healed on day 0", x.read(0, 0), 2);
        x.write(0, 1, 50);
        Checks.due("37: it did not bathe", x.read(0, 0), 2);
        x.sheet(0, 8, 3);
        x.write(0, 0, 50);
        x.write(0, 1, 50);
        x.write(0, 2, 40);
        Checks.due("37: healed on day 1", x.read(0, 0), 1);
        x.write(0, 1, 40);
        x.write(0, 2, 45);
        Checks.due("37: healed, then harmed", x.read(0, 0), 1);
        x.sheet(1, 64, 1);
        x.write(1, 0, (1L << 32) + 50);
        Checks.due("37: too great a number", x.read(1, 0), 0);
        Checks.due("37: nothing changes", x.now(0) + x.now(2) + x.count(3), 0);
        Checks.due("37: nothing changes", x.about(0, 1), -1);
    }

    private static void readFindings() {
        EvenSpring x = new EvenSpring();
        x.pilgrim(50, -1);
        x.sheet(0, 8, 1);
        Checks.allFind("37: beyond", Checks.BEYOND, x.read(-1, 0), x.read(4, 0), x.read(0, 1), x.read(0, -1),
            x.read(4, 9));
        Checks.allFind("37: missing comes ahead of the pilgrim", Checks.MISSING, x.read(1, 0), x.read(1, 9));
    }
}
