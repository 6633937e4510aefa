/** The document's sentences on rows and on how many calls were refused that name a boundary, one by one. */
public final class RowSentencesTest {
    private static final Due due = new Due();
    private static final int[] FAR = {Integer.MIN_VALUE, Integer.MIN_VALUE + 1, Integer.MAX_VALUE - 1, Integer.MAX_VALUE};

    public static void main(String[] args) {
        laid();
        laidRefused();
        laidIsAsThen();
        torn();
        asked();
        copyRefused();
        copyMissing();
        copyEdges();
        copyAsTheyWere();
        copyAll();
        statusOfEach();
        statusOfAnother();
        noneIsNoRefusal();
        due.end();
    }

    private static int square(int x, int y) {
        return Tell.square(x, y);
    }

    /** Rows 0 and 63 of layer 0 are full, row 1 has its first and its last square, row 2 has seven. */
    private static RulePlate drawn() {
        RulePlate p = new RulePlate();
        p.path(0, 0, square(0, 0), square(63, 0), 1);
        p.path(0, 0, square(0, 63), square(63, 63), 1);
        Tell.dot(p, 0, 0, 0, 1);
        Tell.dot(p, 0, 0, 63, 1);
        for (int x : new int[] {1, 3, 4, 8, 15, 31, 62}) {
            Tell.dot(p, 0, 0, x, 2);
        }
        p.made(15, 1, 0, 0);
        p.flat(0);
        return p;
    }

    private static void laid() {
        due.sentence("THE ROW becomes row y of a LAYER of THE DRAWING: 64 numbers 0, 1: how many are 1. BEYOND, MISSING.");
        RulePlate p = drawn();
        due.is("full, the first", p.lay(0, 0), 64);
        due.is("its first number", p.row(0), 1);
        due.is("its last number", p.row(63), 1);
        due.is("full, the last", p.lay(15, 63), 64);
        due.is("empty", p.lay(0, 62), 0);
        due.is("its first number", p.row(0), 0);
        due.is("its last number", p.row(63), 0);
        due.is("two at the borders", p.lay(15, 1), 2);
        for (int i = 0; i < 64; i++) {
            due.is("number " + i, p.row(i), i == 0 || i == 63 ? 1 : 0);
        }
        due.is("of an empty layer", p.lay(7, 0), 0);
    }

    private static void laidRefused() {
        due.sentence("BEYOND, MISSING.");
        RulePlate p = new RulePlate();
        due.is("no drawing", p.lay(0, 0), Tell.MISSING);
        due.is("no drawing", p.lay(15, 63), Tell.MISSING);
        RulePlate q = drawn();
        for (int layer : new int[] {Integer.MIN_VALUE, -1, 16, Integer.MAX_VALUE}) {
            due.is("layer " + layer, q.lay(layer, 0), Tell.BEYOND);
            due.is("layer " + layer + ", no drawing", p.lay(layer, 0), Tell.BEYOND);
        }
        for (int y : new int[] {Integer.MIN_VALUE, -1, 64, Integer.MAX_VALUE}) {
            due.is("y " + y, q.lay(0, y), Tell.BEYOND);
            due.is("y " + y + ", no drawing", p.lay(0, y), Tell.BEYOND);
        }
        due.is("no row came", p.row(0), Tell.MISSING);
        due.is("no row came", q.row(0), Tell.MISSING);
        q.lay(0, 1);
        q.lay(0, 64);
        due.is("the row stays", q.row(63), 1);
    }

    private static void laidIsAsThen() {
        due.sentence("THE ROW becomes row y of a LAYER of THE DRAWING");
        RulePlate p = drawn();
        p.lay(0, 1);
        due.is("another drawing", p.flat(1), 0);
        due.is("the row stays", p.row(0) + p.row(63), 2);
        due.is("that row is empty now", p.lay(0, 1), 0);
        due.is("and so is the row", p.row(0) + p.row(63), 0);
    }

    private static void torn() {
        due.sentence("THE ROW is missing: 1 if it was there, else 0 (at first it is missing).");
        RulePlate p = drawn();
        due.is("at first", p.tear(), 0);
        p.lay(0, 0);
        due.is("there", p.tear(), 1);
        due.is("not any more", p.tear(), 0);
        due.is("no number", p.row(0), Tell.MISSING);
        due.is("no copy", p.copy(0, 0, 0), Tell.MISSING);
        p.lay(0, 62);
        due.is("an empty row is there, too", p.tear(), 1);
    }

    private static void asked() {
        due.sentence("Number i of THE ROW. MISSING, BEYOND.");
        RulePlate p = drawn();
        due.is("missing", p.row(0), Tell.MISSING);
        due.is("missing, beyond", p.row(64), Tell.MISSING);
        p.lay(0, 1);
        for (int i : new int[] {Integer.MIN_VALUE, -64, -63, -1, 64, 127, Integer.MAX_VALUE}) {
            due.is("number " + i, p.row(i), Tell.BEYOND);
        }
        due.is("number 0", p.row(0), 1);
        due.is("number 1", p.row(1), 0);
        due.is("number 62", p.row(62), 0);
        due.is("number 63", p.row(63), 1);
    }

    private static void copyRefused() {
        due.sentence("MISSING, BELOW: n; COPY: i or j below 0, i + n or j + n above 64.");
        int[] places = {-1, 0, 1, 32, 63, 64, 65};
        int[] lengths = {-1, 0, 1, 2, 32, 63, 64, 65};
        for (int i : places) {
            for (int j : places) {
                for (int n : lengths) {
                    boolean can = i >= 0 && j >= 0 && i + n <= 64 && j + n <= 64;
                    int want = n < 0 ? Tell.BELOW : can ? n : Tell.COPY;
                    RulePlate p = drawn();
                    p.lay(0, 1);
                    due.is("copy(" + i + ", " + j + ", " + n + ")", p.copy(i, j, n), want);
                }
            }
        }
        RulePlate q = drawn();
        q.lay(0, 1);
        for (int far : FAR) {
            due.is("i " + far, q.copy(far, 0, 1), Tell.COPY);
            due.is("j " + far, q.copy(0, far, 1), Tell.COPY);
            due.is("i " + far + ", n 0", q.copy(far, 0, 0), Tell.COPY);
            due.is("n " + far, q.copy(1, 1, far), far < 0 ? Tell.BELOW : Tell.COPY);
            due.is("all " + far, q.copy(far, far, far), far < 0 ? Tell.BELOW : Tell.COPY);
            due.is("i " + far + ", n as far", q.copy(far, 0, Integer.MAX_VALUE), Tell.COPY);
        }
        due.is("the row stays", q.row(0) + q.row(1) + q.row(62) + q.row(63), 2);
    }

    private static void copyMissing() {
        due.sentence("MISSING, BELOW: n; COPY");
        RulePlate p = drawn();
        due.is("missing", p.copy(0, 0, 0), Tell.MISSING);
        due.is("missing, below", p.copy(0, 0, -1), Tell.MISSING);
        due.is("missing, copy", p.copy(-1, 65, 1), Tell.MISSING);
        p.lay(0, 0);
        due.is("below, copy", p.copy(-1, 65, -1), Tell.BELOW);
        p.tear();
        due.is("torn", p.copy(0, 0, 64), Tell.MISSING);
    }

    private static void copyEdges() {
        due.sentence("n numbers of THE ROW, from place i on, come to its place j on (as they were): n.");
        copied(0, 0, 0);
        copied(64, 64, 0);
        copied(64, 0, 0);
        copied(0, 64, 0);
        copied(0, 0, 64);
        copied(63, 0, 1);
        copied(0, 63, 1);
        copied(63, 63, 1);
        copied(0, 1, 63);
        copied(1, 0, 63);
        copied(0, 32, 32);
        copied(32, 0, 32);
    }

    private static void copyAsTheyWere() {
        due.sentence("(as they were)");
        for (int i = 0; i <= 12; i++) {
            for (int j = 0; j <= 12; j++) {
                copied(i, j, 7);
                copied(50 + i / 2, 50 + j / 2, 8);
            }
        }
    }

    /** One copy of row 2, held against numbers that are taken out ahead of being put in. */
    private static void copied(int i, int j, int n) {
        RulePlate p = drawn();
        p.lay(0, 2);
        int[] was = new int[64];
        for (int at = 0; at < 64; at++) {
            was[at] = p.row(at);
        }
        String what = "copy(" + i + ", " + j + ", " + n + ")";
        due.is(what, p.copy(i, j, n), n);
        for (int at = 0; at < 64; at++) {
            boolean taken = at >= j && at < j + n;
            due.is(what + ": number " + at, p.row(at), taken ? was[at - j + i] : was[at]);
        }
    }

    private static void copyAll() {
        due.sentence("n numbers of THE ROW, from place i on, come to its place j on");
        RulePlate p = drawn();
        p.lay(0, 1);
        for (int n = 1; n <= 32; n *= 2) {
            due.is("copy of " + n, p.copy(0, n, n), n);
        }
        for (int at = 0; at < 64; at++) {
            due.is("the first, doubled over and over: number " + at, p.row(at), 1);
        }
        due.is("the drawing stays", p.covered(0, square(1, 1)), 0);
        due.is("the drawing's row", p.lay(0, 1), 2);
    }

    private static void statusOfEach() {
        due.sentence("How many calls were refused by an answer -2 .. -9.");
        RulePlate p = Tell.devices(1, 1, 1, 1, 1, 1, 1);
        int before = p.status(Tell.BEYOND);
        Tell.wish(p, 1, 1, 1, 1, 1, 1, 9);
        for (int i = 1; i <= 3; i++) {
            due.is("MISSING", p.undo(6), Tell.MISSING);
            due.is("BEYOND", p.undo(8), Tell.BEYOND);
            p.lay(0, 0);
            due.is("BELOW", p.copy(0, 0, -1), Tell.BELOW);
            due.is("KIND", p.times(0, 0, 300, 300), Tell.KIND);
            due.is("COPY", p.copy(0, 0, 65), Tell.COPY);
            due.is("NO", p.shape(0, 0, 3), Tell.NO);
            for (int k = 0; k < 9; k++) {
                p.joint(0, 0, 0);
            }
            due.is("SPENT", p.same(), Tell.SPENT);
            for (int by = Tell.SPENT; by <= Tell.MISSING; by++) {
                int want = by == Tell.FULL ? 9 * i - 8 : by == Tell.BEYOND ? before + i : i;
                due.is("status(" + by + ")", p.status(by), want);
            }
        }
    }

    private static void statusOfAnother() {
        due.sentence("How many calls were refused by an answer -2 .. -9. NO: another number.");
        RulePlate p = new RulePlate();
        int[] others = {Integer.MIN_VALUE, -11, -10, -1, 0, 1, 2, 9, Integer.MAX_VALUE};
        for (int i = 0; i < others.length; i++) {
            due.is("status(NO)", p.status(Tell.NO), i);
            due.is("status(" + others[i] + ")", p.status(others[i]), Tell.NO);
        }
        for (int by = Tell.SPENT; by <= Tell.MISSING; by++) {
            due.is("status(" + by + ")", p.status(by), by == Tell.NO ? others.length : 0);
        }
    }

    private static void noneIsNoRefusal() {
        due.sentence("How many calls were refused by an answer -2 .. -9.");
        RulePlate p = new RulePlate();
        Tell.dot(p, 0, 0, 0, 0);
        p.rule(0, 1, 0, 9);
        p.conducts(0, true);
        p.gates(0, 0, 0);
        p.flat(0);
        p.run();
        p.circuit();
        due.is("faults", p.faults(0, 1), Tell.NONE);
        due.is("net", p.net(0, 1), Tell.NONE);
        due.is("name", p.name(0, 0), Tell.NONE);
        due.is("device", p.device(0, 3), Tell.NONE);
        p.gates(1, 1, 0);
        p.circuit();
        p.same();
        due.is("pair", p.pair(0, true), Tell.NONE);
        for (int by = Tell.SPENT; by <= Tell.MISSING; by++) {
            due.is("status(" + by + ")", p.status(by), 0);
        }
    }
}
