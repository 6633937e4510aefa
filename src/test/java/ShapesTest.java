/** Promises 1 to 8: a new object, and the shapes of cells. */
public final class ShapesTest {
    private static final Due due = new Due();

    public static void main(String[] args) {
        newObject();
        boxes();
        holes();
        paths();
        texts();
        puts();
        putsFallOff();
        repeats();
        undone();
        shapesTold();
        due.end();
    }

    private static int square(int x, int y) {
        return 64 * y + x;
    }

    private static void newObject() {
        due.promise(1);
        RulePlate p = new RulePlate();
        due.is("no drawing", p.area(0), RulePlate.MISSING);
        for (int by = RulePlate.SPENT; by < RulePlate.MISSING; by++) {
            due.is("status(" + by + ")", p.status(by), 0);
        }
        due.is("status(MISSING)", p.status(RulePlate.MISSING), 1);
        for (int cell = 0; cell < 8; cell++) {
            due.is("undo, empty", p.undo(cell), RulePlate.MISSING);
        }
        for (int layer = 0; layer < 16; layer++) {
            due.is("conducts, not yet", p.conducts(layer, false), 0);
        }
        due.is("unwish, empty", p.unwish(), 0);
        due.is("tries", p.tries(), 0);
        due.is("tear", p.tear(), 0);
        due.is("flat", p.flat(7), 0);
        for (int layer = 0; layer < 16; layer++) {
            due.is("area", p.area(layer), 0);
        }
        due.is("no rules", p.run(), 0);
        due.is("no rule 0", p.faults(0, 0), RulePlate.BEYOND);
        due.is("no nets", p.circuit(), 0);
        due.is("no devices", p.device(RulePlate.NONE, 0), 0);
    }

    private static void boxes() {
        due.promise(2);
        RulePlate p = new RulePlate();
        due.is("box", p.box(0, 3, square(2, 1), 302, false), 0);
        due.is("box, whole plate", p.box(1, 7, 0, 6464, false), 0);
        due.is("box, falls off", p.box(2, 0, square(60, 62), 6464, false), 0);
        due.is("flat", p.flat(0), 6);
        due.is("area", p.area(3), 6);
        due.is("left", p.covered(3, square(2, 1)), 1);
        due.is("right", p.covered(3, square(4, 2)), 1);
        due.is("beside", p.covered(3, square(5, 1)), 0);
        due.is("below", p.covered(3, square(2, 3)), 0);
        due.is("flat, whole", p.flat(1), 4096);
        due.is("flat, fallen", p.flat(2), 8);
        due.is("cell 8", p.box(8, 0, 0, 101, false), RulePlate.BEYOND);
        due.is("cell -1", p.box(-1, 0, 0, 101, false), RulePlate.BEYOND);
        due.is("layer 8", p.box(0, 8, 0, 101, false), RulePlate.BEYOND);
        due.is("layer -1", p.box(0, -1, 0, 101, false), RulePlate.BEYOND);
        due.is("square 4096", p.box(0, 0, 4096, 0, false), RulePlate.BEYOND);
        due.is("square -1", p.box(0, 0, -1, 101, false), RulePlate.BEYOND);
        for (int size : new int[] {0, 1, 64, 100, 165, 199, 6500, 6501, 6465, -101, -1, Integer.MIN_VALUE,
            Integer.MAX_VALUE}) {
            due.is("size " + size, p.box(0, 0, 0, size, false), RulePlate.NO);
        }
        for (int i = 1; i < 16; i++) {
            due.is("box " + i, p.box(0, 0, i, 101, false), i);
        }
        due.is("full", p.box(0, 0, 0, 101, false), RulePlate.FULL);
        due.is("full, wrong size", p.box(0, 0, 0, 100, false), RulePlate.NO);
        due.is("full, hole", p.box(0, 0, 0, 101, true), RulePlate.FULL);
        due.is("flat, 16 shapes", p.flat(0), 21);
    }

    private static void holes() {
        due.promise(2);
        RulePlate p = new RulePlate();
        p.box(0, 0, square(1, 1), 202, true);
        p.box(0, 0, square(0, 0), 404, false);
        p.box(0, 1, square(0, 0), 404, false);
        p.path(0, 0, square(1, 1), square(6, 1), 1);
        due.is("holes go from all of the layer, drawn ahead or behind", p.flat(0), 12 + 3 + 16);
        due.is("in the hole", p.covered(0, square(2, 2)), 0);
        due.is("another layer", p.covered(1, square(2, 2)), 1);
        p.put(1, 0, square(0, 0), 0, false);
        p.box(1, 0, 0, 6464, true);
        due.is("what a put brings has no holes of this cell", p.flat(1), 31);
    }

    private static void paths() {
        due.promise(3);
        RulePlate p = new RulePlate();
        due.is("row", p.path(0, 0, square(10, 10), square(5, 10), 4), 0);
        due.is("flat", p.flat(0), 24);
        due.is("above", p.covered(0, square(5, 9)), 1);
        due.is("no more above", p.covered(0, square(5, 8)), 0);
        due.is("below", p.covered(0, square(10, 12)), 1);
        due.is("no more below", p.covered(0, square(10, 13)), 0);
        due.is("ends are as they are", p.covered(0, square(11, 10)), 0);
        due.is("column", p.path(1, 1, square(30, 40), square(30, 43), 2), 0);
        due.is("flat", p.flat(1), 8);
        due.is("right", p.covered(1, square(31, 43)), 1);
        due.is("left", p.covered(1, square(29, 43)), 0);
        due.is("one square", p.path(2, 2, square(5, 5), square(5, 5), 9), 0);
        due.is("flat", p.flat(2), 9);
        due.is("it is a row: above", p.covered(2, square(5, 1)), 1);
        due.is("it is a row: left", p.covered(2, square(4, 5)), 0);
        due.is("falls off", p.path(3, 2, square(0, 62), square(63, 62), 9), 0);
        due.is("flat", p.flat(3), 64 * 6);
        due.is("falls off on the right", p.path(4, 2, square(63, 0), square(63, 9), 3), 0);
        due.is("flat", p.flat(4), 20);
        due.is("not in one row", p.path(0, 0, square(1, 1), square(2, 2), 1), RulePlate.NO);
        due.is("thick 0", p.path(0, 0, 0, 5, 0), RulePlate.NO);
        due.is("thick 10", p.path(0, 0, 0, 5, 10), RulePlate.NO);
        due.is("layer 8", p.path(0, 8, 0, 65, 0), RulePlate.BEYOND);
        due.is("cell", p.path(8, 0, 0, 5, 1), RulePlate.BEYOND);
        due.is("from", p.path(0, 0, -1, 5, 1), RulePlate.BEYOND);
        due.is("to", p.path(0, 0, 0, 4096, 1), RulePlate.BEYOND);
        for (int i = 1; i < 16; i++) {
            due.is("path " + i, p.path(0, 0, i, i, 1), i);
        }
        due.is("full", p.path(0, 0, 0, 0, 1), RulePlate.FULL);
        due.is("full, thick", p.path(0, 0, 0, 0, 10), RulePlate.NO);
    }

    private static void texts() {
        due.promise(4);
        RulePlate p = new RulePlate();
        due.is("text", p.text(0, 0, 0, 1), 0);
        due.is("made layer", p.text(0, 15, 4095, 999), 1);
        due.is("name 0", p.text(0, 0, 0, 0), RulePlate.NO);
        due.is("name 1000", p.text(0, 0, 0, 1000), RulePlate.NO);
        due.is("layer 16", p.text(0, 16, 0, 0), RulePlate.BEYOND);
        due.is("layer -1", p.text(0, -1, 0, 1), RulePlate.BEYOND);
        due.is("cell 8", p.text(8, 0, 0, 1), RulePlate.BEYOND);
        due.is("square 4096", p.text(0, 0, 4096, 1), RulePlate.BEYOND);
        for (int i = 2; i < 16; i++) {
            due.is("text " + i, p.text(0, 0, 0, 5), i);
        }
        due.is("full", p.text(0, 0, 0, 5), RulePlate.FULL);
        due.is("texts are no squares", p.flat(0), 0);
    }

    private static void puts() {
        due.promise(5);
        // 2, 1 of cell 0 as the words have it: mirrored -3, 1; turned -2, 2; -3, -2; 1, -3 of that not mirrored
        int[][] turned = {{2, 1}, {-2, 2}, {-3, -2}, {1, -3}};
        int[][] mirrored = {{-3, 1}, {-2, -3}, {2, -2}, {1, 2}};
        for (int t = 0; t < 4; t++) {
            for (int m = 0; m < 2; m++) {
                RulePlate p = new RulePlate();
                p.box(0, 5, square(2, 1), 101, false);
                due.is("put", p.put(3, 0, square(20, 30), t, m == 1), 0);
                due.is("flat", p.flat(3), 1);
                int[] to = m == 1 ? mirrored[t] : turned[t];
                due.is("turned " + t + ", mirrored " + m, p.covered(5, square(20 + to[0], 30 + to[1])), 1);
            }
        }
        RulePlate p = new RulePlate();
        due.is("itself", p.put(1, 1, 0, 0, false), RulePlate.BEYOND);
        due.is("greater", p.put(1, 2, 0, 0, false), RulePlate.BEYOND);
        due.is("none is lesser", p.put(0, 0, 0, 9, false), RulePlate.BEYOND);
        due.is("other -1", p.put(1, -1, 0, 0, false), RulePlate.BEYOND);
        due.is("cell 8", p.put(8, 0, 0, 0, false), RulePlate.BEYOND);
        due.is("square", p.put(1, 0, 4096, 4, false), RulePlate.BEYOND);
        due.is("turned 4", p.put(1, 0, 0, 4, false), RulePlate.NO);
        due.is("turned -1", p.put(1, 0, 0, -1, false), RulePlate.NO);
        for (int i = 0; i < 16; i++) {
            due.is("put " + i, p.put(1, 0, 0, 0, false), i);
        }
        due.is("full", p.put(1, 0, 0, 0, false), RulePlate.FULL);
        due.is("full, turned 4", p.put(1, 0, 0, 4, false), RulePlate.NO);
    }

    private static void putsFallOff() {
        due.promise(5);
        RulePlate p = new RulePlate();
        p.box(0, 0, square(0, 0), 404, false);
        p.put(1, 0, square(62, 0), 0, false);
        p.put(2, 1, square(2, 0), 0, true);
        due.is("half falls off", p.flat(1), 8);
        due.is("what fell off in cell 1 does not come back", p.flat(2), 0);
        p.put(3, 1, square(0, 0), 2, false);
        due.is("all falls off", p.flat(3), 0);
        p.put(5, 0, square(0, 20), 0, true);
        due.is("mirrored, it is all left of the plate", p.flat(5), 0);
        p.undo(5);
        p.put(5, 0, square(0, 20), 1, false);
        due.is("turned once, it is all left of the plate", p.flat(5), 0);
        p.undo(5);
        p.put(5, 0, square(20, 0), 3, false);
        due.is("turned three times, it is all above the plate", p.flat(5), 0);
        p.undo(5);
        p.put(5, 0, square(20, 1), 3, false);
        due.is("one row comes", p.flat(5), 4);
        p.put(4, 1, square(63, 63), 2, false);
        due.is("turned back into the plate", p.flat(4), 4);
        due.is("there", p.covered(0, square(0, 62)), 1);
        p.box(0, 0, square(0, 0), 101, true);
        due.is("the drawing is as the cells were", p.area(0), 4);
        due.is("a lesser cell changed", p.flat(4), 3);
        p.box(0, 0, square(0, 1), 101, true);
        due.is("again", p.flat(4), 2);
    }

    private static void repeats() {
        due.promise(6);
        RulePlate p = new RulePlate();
        p.box(0, 0, 0, 101, false);
        p.text(0, 0, 0, 77);
        p.put(1, 0, square(10, 20), 0, false);
        due.is("times", p.times(1, 0, 200 * 3 + 5 + 100, 200 * 2 - 7 + 100), 1);
        due.is("flat", p.flat(1), 6);
        due.is("last across", p.covered(0, square(20, 20)), 1);
        due.is("last down", p.covered(0, square(20, 13)), 1);
        due.is("no more across", p.covered(0, square(25, 20)), 0);
        due.is("no more down", p.covered(0, square(10, 6)), 0);
        due.is("farthest", p.times(1, 0, 200 * 4 + 63 + 100, 200 * 1 - 63 + 100), 1);
        due.is("flat, most fell off", p.flat(1), 1);
        p.put(2, 0, square(1, 1), 0, false);
        due.is("to just beyond", p.times(2, 0, 200 * 2 + 63 + 100, 200 * 2 + 63 + 100), 1);
        due.is("flat, only the first stays", p.flat(2), 1);
        due.is("by whole rows", p.times(2, 0, 200 * 2 + 62 + 100, 200 * 2 + 62 + 100), 1);
        due.is("flat, all stay", p.flat(2), 4);
        due.is("on one place", p.times(1, 0, 900, 900), 1);
        due.is("flat, one place", p.flat(1), 1);
        for (int wrong : new int[] {0, 100, 199, 200, 236, 364, 436, 564, 836, 964, 1100, -300, -100,
            Integer.MIN_VALUE, Integer.MAX_VALUE}) {
            due.is("across " + wrong, p.times(1, 0, wrong, 300), RulePlate.NO);
            due.is("down " + wrong, p.times(1, 0, 300, wrong), RulePlate.NO);
        }
        for (int right : new int[] {237, 363, 437, 563, 837, 963}) {
            due.is("across " + right, p.times(1, 0, right, 300), 1);
            due.is("down " + right, p.times(1, 0, 300, right), 1);
        }
        due.is("not a put", p.times(0, 0, 0, 0), RulePlate.KIND);
        due.is("a text", p.times(0, 1, 300, 300), RulePlate.KIND);
        due.is("shape", p.times(1, 1, 0, 0), RulePlate.BEYOND);
        due.is("shape -1", p.times(1, -1, 300, 300), RulePlate.BEYOND);
        due.is("cell", p.times(8, 0, 300, 300), RulePlate.BEYOND);
        due.is("cell -1", p.times(-1, 0, 300, 300), RulePlate.BEYOND);
    }

    private static void undone() {
        due.promise(7);
        RulePlate p = new RulePlate();
        p.box(0, 0, 0, 202, false);
        p.box(0, 0, 0, 101, true);
        p.text(0, 0, 1, 4);
        p.put(1, 0, 0, 0, false);
        due.is("flat", p.flat(1), 3);
        due.is("undo text", p.undo(0), 2);
        due.is("undo hole", p.undo(0), 1);
        due.is("the drawing stays", p.area(0), 3);
        due.is("flat", p.flat(1), 4);
        due.is("next number", p.box(0, 0, 2, 101, false), 1);
        due.is("undo", p.undo(0), 1);
        due.is("undo", p.undo(0), 0);
        due.is("none left", p.undo(0), RulePlate.MISSING);
        due.is("gone", p.shape(0, 0, 0), RulePlate.BEYOND);
        due.is("gone", p.times(0, 0, 300, 300), RulePlate.BEYOND);
        due.is("flat", p.flat(1), 0);
        due.is("undo put", p.undo(1), 0);
        due.is("cell 8", p.undo(8), RulePlate.BEYOND);
        due.is("cell -1", p.undo(-1), RulePlate.BEYOND);
        for (int i = 0; i < 16; i++) {
            p.box(2, 0, i, 101, false);
        }
        due.is("full", p.box(2, 0, 0, 101, false), RulePlate.FULL);
        due.is("undo of 16", p.undo(2), 15);
        due.is("room again", p.box(2, 0, 40, 101, false), 15);
    }

    private static void shapesTold() {
        due.promise(8);
        RulePlate p = new RulePlate();
        p.box(5, 1, 10, 101, false);
        p.box(5, 2, 11, 101, true);
        p.path(5, 3, 20, 12, 2);
        p.text(5, 14, 13, 500);
        p.put(5, 4, 14, 3, true);
        int[][] want = {{0, 1, 10}, {1, 2, 11}, {2, 3, 20}, {3, 14, 13}, {4, 4, 14}};
        for (int i = 0; i < 5; i++) {
            for (int what = 0; what < 3; what++) {
                due.is("shape(5, " + i + ", " + what + ")", p.shape(5, i, what), want[i][what]);
            }
        }
        due.is("what 3", p.shape(5, 0, 3), RulePlate.NO);
        due.is("what -1", p.shape(5, 0, -1), RulePlate.NO);
        due.is("shape 5", p.shape(5, 5, 3), RulePlate.BEYOND);
        due.is("shape -1", p.shape(5, -1, 0), RulePlate.BEYOND);
        due.is("cell 8", p.shape(8, 0, 0), RulePlate.BEYOND);
        due.is("cell -1", p.shape(-1, 0, 0), RulePlate.BEYOND);
    }
}
