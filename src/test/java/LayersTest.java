/** Promises 9 to 13: layers made of layers, and what is told of the drawing. */
public final class LayersTest {
    private static final Due due = new Due();

    public static void main(String[] args) {
        made();
        madeRefused();
        flat();
        area();
        covered();
        pieces();
        due.end();
    }

    private static int square(int x, int y) {
        return 64 * y + x;
    }

    private static void made() {
        due.promise(9);
        RulePlate p = new RulePlate();
        p.box(0, 0, square(10, 10), 503, false);
        p.box(0, 0, square(20, 10), 101, false);
        p.box(0, 0, square(16, 9), 101, false);
        p.box(0, 1, square(13, 11), 505, false);
        due.is("AND", p.made(8, 0, 0, 1), 1);
        due.is("OR", p.made(9, 1, 0, 1), 1);
        due.is("LESS", p.made(10, 2, 0, 1), 1);
        due.is("GROWN", p.made(11, 3, 0, 2), 1);
        due.is("SHRUNK", p.made(12, 4, 11, 2), 1);
        due.is("TOUCHED", p.made(13, 5, 0, 1), 1);
        due.is("OR of made ones", p.made(15, 1, 8, 14), 1);
        p.flat(0);
        due.is("AND", p.area(8), 4);
        due.is("OR", p.area(9), 17 + 25 - 4);
        due.is("LESS", p.area(10), 13);
        due.is("GROWN", p.area(11), 63 + 25 + 25 - 12 - 4);
        due.is("GROWN, a corner", p.covered(11, square(8, 8)), 1);
        due.is("GROWN, beyond", p.covered(11, square(7, 8)), 0);
        due.is("SHRUNK", p.area(12), 15 + 1 + 1);
        due.is("TOUCHED", p.area(13), 15);
        due.is("TOUCHED, not the others", p.covered(13, square(20, 10)), 0);
        due.is("of what is not told", p.area(15), 4);
        due.is("not told", p.area(14), 0);
        due.is("told anew", p.made(15, 4, 14, 0), 1);
        due.is("told anew", p.made(8, 2, 0, 2), 1);
        due.is("but not yet", p.area(15), 4);
        p.flat(0);
        due.is("SHRUNK of none", p.area(15), 0);
        due.is("LESS none", p.area(8), 17);
        edges();
        uneven();
        touched();
    }

    /** What lacks one square is shrunk on that side alone. */
    private static void uneven() {
        int[][] lacks = {{20, 15}, {20, 24}, {15, 20}, {24, 20}};
        int[][] gone = {{20, 17}, {20, 22}, {17, 20}, {22, 20}};
        for (int i = 0; i < 4; i++) {
            RulePlate p = new RulePlate();
            p.box(0, 0, square(15, 15), 1010, false);
            p.box(0, 0, square(lacks[i][0], lacks[i][1]), 101, true);
            p.made(8, 4, 0, 2);
            p.flat(0);
            due.is("SHRUNK, uneven " + i, p.area(8), 36 - 5);
            due.is("SHRUNK, gone " + i, p.covered(8, square(gone[i][0], gone[i][1])), 0);
        }
    }

    /** Pieces side by side in the first rows, some of them touched. */
    private static void touched() {
        RulePlate p = new RulePlate();
        for (int i = 0; i < 6; i++) {
            p.box(0, 0, square(10 * i, 0), 402, false);
        }
        p.box(0, 1, square(13, 0), 101, false);
        p.box(0, 1, square(18, 0), 301, false);
        p.box(0, 1, square(43, 1), 1001, false);
        p.made(8, 5, 0, 1);
        p.made(9, 5, 1, 0);
        p.flat(0);
        due.is("TOUCHED", p.area(8), 4 * 8);
        due.is("TOUCHED, how many", p.pieces(8, -1), 4);
        due.is("TOUCHED, not the first", p.covered(8, square(0, 0)), 0);
        due.is("TOUCHED, the second", p.covered(8, square(10, 0)), 1);
        due.is("TOUCHED, the third", p.covered(8, square(23, 1)), 1);
        due.is("TOUCHED, not the fourth", p.covered(8, square(30, 0)), 0);
        due.is("TOUCHED, the last", p.covered(8, square(53, 0)), 1);
        due.is("TOUCHED, the other way", p.area(9), 14);
    }

    private static void edges() {
        RulePlate p = new RulePlate();
        p.box(0, 0, 0, 6464, false);
        p.box(0, 1, square(63, 63), 101, false);
        p.made(8, 4, 0, 9);
        p.made(9, 3, 1, 9);
        p.made(10, 4, 0, 0);
        p.made(11, 3, 1, 0);
        p.made(12, 5, 1, 0);
        p.flat(0);
        due.is("beyond the plate is none", p.area(8), 46 * 46);
        due.is("a corner", p.covered(8, square(9, 9)), 1);
        due.is("not the border", p.covered(8, square(8, 9)), 0);
        due.is("grown falls off", p.area(9), 100);
        due.is("shrunk by 0", p.area(10), 4096);
        due.is("grown by 0", p.area(11), 1);
        due.is("touched", p.area(12), 1);
    }

    private static void madeRefused() {
        due.promise(9);
        RulePlate p = new RulePlate();
        due.is("k 7", p.made(7, 0, 0, 0), RulePlate.BEYOND);
        due.is("k 16", p.made(16, 9, 0, 0), RulePlate.BEYOND);
        due.is("a is k", p.made(8, 3, 8, 0), RulePlate.BEYOND);
        due.is("a -1", p.made(8, 3, -1, 0), RulePlate.BEYOND);
        for (int op : new int[] {0, 1, 2, 5}) {
            due.is("b is k, op " + op, p.made(9, op, 8, 9), RulePlate.BEYOND);
            due.is("b -1, op " + op, p.made(9, op, 8, -1), RulePlate.BEYOND);
            due.is("b below k, op " + op, p.made(9, op, 8, 8), 1);
        }
        due.is("op 6", p.made(8, 6, 0, 99), RulePlate.NO);
        due.is("op -1", p.made(8, -1, 0, 99), RulePlate.NO);
        due.is("op 6, a", p.made(8, 6, 8, 0), RulePlate.BEYOND);
        for (int op = 3; op <= 4; op++) {
            due.is("n 10", p.made(8, op, 0, 10), RulePlate.NO);
            due.is("n -1", p.made(8, op, 0, -1), RulePlate.NO);
            due.is("n 9", p.made(8, op, 0, 9), 1);
            due.is("n 9, above k", p.made(8, op, 0, 9), 1);
        }
    }

    private static void flat() {
        due.promise(10);
        RulePlate p = new RulePlate();
        p.box(0, 0, 0, 202, false);
        p.box(0, 7, 0, 303, false);
        p.made(8, 1, 0, 7);
        p.rule(3, 0, 0, 9);
        p.conducts(0, true);
        due.is("all drawn layers, not the made ones", p.flat(0), 13);
        due.is("run", p.run(), 1);
        due.is("circuit", p.circuit(), 1);
        due.is("same", p.same(), 1);
        due.is("pair", p.pair(0, true), RulePlate.NONE);
        due.is("cell 8", p.flat(8), RulePlate.BEYOND);
        due.is("cell -1", p.flat(-1), RulePlate.BEYOND);
        due.is("a refused one changes nothing", p.fault(0, 0), 0);
        due.is("a refused one changes nothing", p.pair(0, true), RulePlate.NONE);
        due.is("flat", p.flat(1), 0);
        due.is("another cell", p.area(8), 0);
        due.is("faults go", p.fault(0, 0), RulePlate.MISSING);
        due.is("faults go", p.faults(0, 0), RulePlate.MISSING);
        due.is("nets go", p.net(0, 0), RulePlate.MISSING);
        due.is("devices go", p.device(-1, 0), RulePlate.MISSING);
        due.is("names go", p.name(0, 0), RulePlate.MISSING);
        due.is("no circuit for same", p.same(), RulePlate.MISSING);
        due.is("pairs go", p.pair(0, true), RulePlate.MISSING);
    }

    private static void area() {
        due.promise(11);
        RulePlate p = new RulePlate();
        due.is("missing", p.area(0), RulePlate.MISSING);
        due.is("beyond", p.area(16), RulePlate.BEYOND);
        due.is("beyond", p.area(-1), RulePlate.BEYOND);
        p.box(0, 0, 0, 6464, false);
        p.box(0, 1, 5, 101, false);
        p.flat(0);
        due.is("whole", p.area(0), 4096);
        due.is("one", p.area(1), 1);
        due.is("none", p.area(2), 0);
        due.is("none", p.area(15), 0);
    }

    private static void covered() {
        due.promise(12);
        RulePlate p = new RulePlate();
        due.is("missing", p.covered(0, 0), RulePlate.MISSING);
        due.is("layer", p.covered(16, 0), RulePlate.BEYOND);
        due.is("square", p.covered(0, 4096), RulePlate.BEYOND);
        due.is("square", p.covered(0, -1), RulePlate.BEYOND);
        p.box(0, 6, 4095, 101, false);
        p.box(0, 6, square(63, 0), 101, false);
        p.made(15, 1, 6, 6);
        p.flat(0);
        due.is("last", p.covered(6, 4095), 1);
        due.is("first row's last", p.covered(6, 63), 1);
        due.is("next row's first", p.covered(6, 64), 0);
        due.is("made", p.covered(15, 4095), 1);
        due.is("made", p.covered(15, 0), 0);
    }

    private static void pieces() {
        due.promise(13);
        RulePlate p = new RulePlate();
        due.is("layer", p.pieces(16, -1), RulePlate.BEYOND);
        due.is("missing", p.pieces(0, 99999), RulePlate.MISSING);
        // a fork whose left prong is met last, a corner that only touches, and one in its lap
        p.path(0, 0, square(10, 5), square(10, 9), 1);
        p.path(0, 0, square(4, 6), square(4, 9), 1);
        p.path(0, 0, square(4, 9), square(10, 9), 1);
        p.path(0, 0, square(3, 5), square(3, 5), 1);
        p.path(0, 0, square(6, 7), square(7, 7), 1);
        p.box(0, 1, 0, 6464, false);
        p.flat(0);
        due.is("how many", p.pieces(0, -1), 3);
        due.is("corners do not join, and it is the least", p.pieces(0, 0), 1);
        due.is("the fork is one", p.pieces(0, 1), 14);
        due.is("in its lap", p.pieces(0, 2), 2);
        due.is("no such", p.pieces(0, 3), RulePlate.BEYOND);
        due.is("no such", p.pieces(0, -2), RulePlate.BEYOND);
        due.is("whole", p.pieces(1, -1), 1);
        due.is("whole", p.pieces(1, 0), 4096);
        due.is("empty", p.pieces(2, -1), 0);
        due.is("empty", p.pieces(2, 0), RulePlate.BEYOND);
        checkered();
    }

    /** As many pieces as there can be. */
    private static void checkered() {
        RulePlate p = new RulePlate();
        p.box(0, 0, square(0, 0), 101, false);
        p.box(0, 0, square(1, 1), 101, false);
        for (int cell = 1; cell <= 5; cell++) {
            int far = 1 << cell;
            p.put(cell, cell - 1, 0, 0, false);
            p.times(cell, 0, 200 * 2 + far + 100, 200 * 2 + far + 100);
        }
        due.is("flat", p.flat(5), 2048);
        due.is("pieces", p.pieces(0, -1), 2048);
        due.is("last", p.pieces(0, 2047), 1);
        due.is("no more", p.pieces(0, 2048), RulePlate.BEYOND);
        p.conducts(0, true);
        due.is("nets", p.circuit(), 2048);
        due.is("last net", p.net(0, 4095), 2047);
        p.gates(0, 0, 0);
        p.circuit();
        due.is("devices", p.device(-1, 0), 2048);
        due.is("last device", p.device(2047, 2), 2047);
    }
}
