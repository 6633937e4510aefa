/** The document's sentences on squares, layers, cells and shapes that name a boundary, one by one. */
public final class ShapeSentencesTest {
    private static final Due due = new Due();
    private static final int[] WRONG_SQUARES = {Integer.MIN_VALUE, -64, -1, 4096, 4097, Integer.MAX_VALUE};
    private static final int[] RIGHT_SQUARES = {0, 63, 64, 4032, 4095};

    public static void main(String[] args) {
        newObject();
        squares();
        squaresBeyond();
        layers();
        cells();
        shapesOfCells();
        wideAndHigh();
        sizesRefused();
        thick();
        oneSquare();
        rowOrColumn();
        pathTurnedBack();
        namesOfTexts();
        lesserCells();
        putRefused();
        turnedBy();
        timesAtFirst();
        timesTold();
        timesOfShapes();
        undone();
        shapesAsked();
        due.end();
    }

    private static int square(int x, int y) {
        return Tell.square(x, y);
    }

    private static int size(int wide, int high) {
        return Tell.size(wide, high);
    }

    private static void newObject() {
        due.sentence("Empty CELLS, no MADE LAYERS, RULES, CONDUCTORS, GATES, no THE DRAWING.");
        RulePlate p = new RulePlate();
        for (int layer = 0; layer < 16; layer++) {
            due.is("area ahead of flat()", p.area(layer), Tell.MISSING);
            due.is("conducts", p.conducts(layer, false), 0);
        }
        for (int cell = 0; cell < 8; cell++) {
            due.is("shape", p.shape(cell, 0, 0), Tell.BEYOND);
            due.is("undo", p.undo(cell), Tell.MISSING);
            due.is("flat", p.flat(cell), 0);
        }
        for (int layer = 0; layer < 16; layer++) {
            due.is("area", p.area(layer), 0);
            due.is("faults", p.faults(layer, 0), Tell.BEYOND);
        }
        due.is("run", p.run(), 0);
        due.is("circuit, without gates", p.circuit(), 0);
        due.is("device", p.device(Tell.NONE, 0), 0);
        due.is("unwish", p.unwish(), 0);
    }

    private static void squares() {
        due.sentence("THE PLATE has 64 by 64 SQUARES; SQUARE x, y (0 .. 63 each) is told as 64 * y + x.");
        for (int told : RIGHT_SQUARES) {
            RulePlate p = new RulePlate();
            due.is("box at " + told, p.box(0, 0, told, size(1, 1), false), 0);
            due.is("flat", p.flat(0), 1);
            for (int by : new int[] {-64, -63, -1, 0, 1, 63, 64}) {
                if (told + by >= 0 && told + by < 4096) {
                    due.is("covered " + told + " + " + by, p.covered(0, told + by), by == 0 ? 1 : 0);
                }
            }
            due.is("row " + told / 64, p.lay(0, told / 64), 1);
            due.is("x " + told % 64, p.row(told % 64), 1);
        }
    }

    private static void squaresBeyond() {
        due.sentence("THE PLATE has 64 by 64 SQUARES");
        RulePlate p = new RulePlate();
        p.flat(0);
        p.circuit();
        for (int told : WRONG_SQUARES) {
            due.is("box at " + told, p.box(0, 0, told, size(1, 1), false), Tell.BEYOND);
            due.is("hole at " + told, p.box(0, 0, told, size(1, 1), true), Tell.BEYOND);
            due.is("path from " + told, p.path(0, 0, told, 0, 1), Tell.BEYOND);
            due.is("path to " + told, p.path(0, 0, 4095, told, 1), Tell.BEYOND);
            due.is("text at " + told, p.text(0, 0, told, 1), Tell.BEYOND);
            due.is("put at " + told, p.put(1, 0, told, 0, false), Tell.BEYOND);
            due.is("covered " + told, p.covered(0, told), Tell.BEYOND);
            due.is("net at " + told, p.net(0, told), Tell.BEYOND);
        }
        due.is("nothing came", p.undo(0), Tell.MISSING);
        due.is("nothing came", p.undo(1), Tell.MISSING);
    }

    private static void layers() {
        due.sentence("LAYERS 0 .. 15 are sets of SQUARES; 0 .. 7 are DRAWN, 8 .. 15 MADE.");
        RulePlate p = new RulePlate();
        p.flat(0);
        for (int layer = -1; layer <= 16; layer++) {
            boolean drawn = layer >= 0 && layer < 8;
            boolean any = layer >= 0 && layer < 16;
            due.is("box on " + layer, p.box(0, layer, 0, size(1, 1), false), drawn ? 2 * layer : Tell.BEYOND);
            due.is("hole on " + layer, p.box(1, layer, 0, size(1, 1), true), drawn ? layer : Tell.BEYOND);
            due.is("path on " + layer, p.path(0, layer, 0, 1, 1), drawn ? 2 * layer + 1 : Tell.BEYOND);
            due.is("text on " + layer, p.text(2, layer, 0, 1), any ? layer : Tell.BEYOND);
            due.is("made " + layer, p.made(layer, 3, 0, 0), any && !drawn ? 1 : Tell.BEYOND);
            due.is("area of " + layer, p.area(layer), any ? 0 : Tell.BEYOND);
            due.is("covered of " + layer, p.covered(layer, 0), any ? 0 : Tell.BEYOND);
            due.is("pieces of " + layer, p.pieces(layer, Tell.NONE), any ? 0 : Tell.BEYOND);
            due.is("lay of " + layer, p.lay(layer, 0), any ? 0 : Tell.BEYOND);
            due.is("conducts " + layer, p.conducts(layer, false), any ? 0 : Tell.BEYOND);
            due.is("rule of " + layer, p.rule(0, layer, 0, 0), any ? layer : Tell.BEYOND);
        }
    }

    private static void cells() {
        due.sentence("CELLS 0 .. 7 each have SHAPES");
        RulePlate p = new RulePlate();
        for (int cell = -1; cell <= 8; cell++) {
            boolean there = cell >= 0 && cell < 8;
            due.is("box in " + cell, p.box(cell, 0, cell & 7, size(1, 1), false), there ? 0 : Tell.BEYOND);
            due.is("path in " + cell, p.path(cell, 0, 0, 0, 1), there ? 1 : Tell.BEYOND);
            due.is("text in " + cell, p.text(cell, 0, 0, 1), there ? 2 : Tell.BEYOND);
            due.is("shape of " + cell, p.shape(cell, 0, 2), there ? cell : Tell.BEYOND);
            due.is("times in " + cell, p.times(cell, 0, 300, 300), there ? Tell.KIND : Tell.BEYOND);
            due.is("flat of " + cell, p.flat(cell), there ? cell == 0 ? 1 : 2 : Tell.BEYOND);
            due.is("undo of " + cell, p.undo(cell), there ? 2 : Tell.BEYOND);
        }
        due.is("put into -1", p.put(-1, 0, 0, 0, false), Tell.BEYOND);
        due.is("put into 8", p.put(8, 0, 0, 0, false), Tell.BEYOND);
        due.is("put into 7", p.put(7, 0, 0, 0, false), 2);
    }

    private static void shapesOfCells() {
        due.sentence("at first none, 16 at most, numbered as they come");
        for (int cell = 0; cell < 8; cell++) {
            RulePlate p = new RulePlate();
            due.is("at first none", p.shape(cell, 0, 0), Tell.BEYOND);
            for (int i = 0; i < 16; i++) {
                due.is("shape " + i + " of " + cell, add(p, cell, i % 5), i);
            }
            for (int kind = 0; kind < 5; kind++) {
                due.is("one more, of kind " + kind, add(p, cell, kind), Tell.FULL);
            }
            due.is("the last is told", p.shape(cell, 15, 0), 0);
            due.is("none behind it", p.shape(cell, 16, 0), Tell.BEYOND);
            due.is("another cell has room", p.text((cell + 1) % 8, 0, 0, 1), 0);
        }
    }

    /** A shape of a kind; cell 0 can have no put, a path comes in its place. */
    private static int add(RulePlate p, int cell, int kind) {
        if (kind < 2) {
            return p.box(cell, 0, 0, size(1, 1), kind == 1);
        }
        if (kind == 3) {
            return p.text(cell, 0, 0, 1);
        }
        return kind == 4 && cell > 0 ? p.put(cell, 0, 0, 0, false) : p.path(cell, 0, 0, 0, 1);
    }

    private static void wideAndHigh() {
        due.sentence("so WIDE and HIGH (1 .. 64 each)");
        int[] lengths = {1, 2, 63, 64};
        for (int wide : lengths) {
            for (int high : lengths) {
                RulePlate p = new RulePlate();
                String what = wide + " wide, " + high + " high: ";
                due.is(what + "box", p.box(0, 0, 0, size(wide, high), false), 0);
                due.is(what + "flat", p.flat(0), wide * high);
                due.is(what + "last", p.covered(0, square(wide - 1, high - 1)), 1);
                due.is(what + "beside", wide == 64 ? 0 : p.covered(0, square(wide, 0)), 0);
                due.is(what + "below", high == 64 ? 0 : p.covered(0, square(0, high)), 0);
                due.is(what + "hole", p.box(0, 0, 0, size(wide, high), true), 1);
                due.is(what + "box", p.box(0, 0, 0, size(64, 64), false), 2);
                due.is(what + "flat with the hole", p.flat(0), 4096 - wide * high);
            }
        }
    }

    private static void sizesRefused() {
        due.sentence("A BOX (hole false), or HOLE: size: 100 * WIDE and HIGH: its number."
            + " BEYOND (CELL, DRAWN LAYER, SQUARE), NO: size; FULL.");
        int[] wrong = {Integer.MIN_VALUE, -6464, -101, -100, -1, 0, 1, 64, 99, 100, 165, 199, 6400, 6465, 6499,
            6500, 6501, 6564, 10101, Integer.MAX_VALUE};
        RulePlate p = new RulePlate();
        for (int told : wrong) {
            due.is("box of size " + told, p.box(0, 0, 0, told, false), Tell.NO);
            due.is("hole of size " + told, p.box(0, 0, 0, told, true), Tell.NO);
        }
        int[] right = {101, 164, 6401, 6464};
        for (int i = 0; i < 4; i++) {
            due.is("box of size " + right[i], p.box(0, 0, 0, right[i], false), 2 * i);
            due.is("hole of size " + right[i], p.box(0, 0, 0, right[i], true), 2 * i + 1);
        }
    }

    private static void thick() {
        due.sentence("all SQUARES of these between, and (THICK - 1) / 2 (cut) more to the left or above,"
            + " THICK / 2 (cut) more to the right or below of that column or row");
        for (int thick = 1; thick <= 9; thick++) {
            int before = (thick - 1) / 2;
            int behind = thick / 2;
            RulePlate p = new RulePlate();
            p.path(0, 0, square(20, 30), square(25, 30), thick);
            p.path(0, 1, square(20, 30), square(20, 35), thick);
            due.is("flat of thick " + thick, p.flat(0), 2 * 6 * thick);
            due.is("uppermost", p.covered(0, square(20, 30 - before)), 1);
            due.is("lowest", p.covered(0, square(25, 30 + behind)), 1);
            due.is("leftmost", p.covered(1, square(20 - before, 30)), 1);
            due.is("rightmost", p.covered(1, square(20 + behind, 35)), 1);
            due.is("ends of a row", p.covered(0, square(19, 30)) + p.covered(0, square(26, 30)), 0);
            due.is("ends of a column", p.covered(1, square(20, 29)) + p.covered(1, square(20, 36)), 0);
        }
    }

    private static void oneSquare() {
        due.sentence("(of one SQUARE alone it is a row)");
        for (int thick = 1; thick <= 9; thick++) {
            RulePlate p = new RulePlate();
            p.path(0, 0, square(30, 30), square(30, 30), thick);
            due.is("flat of thick " + thick, p.flat(0), thick);
            due.is("uppermost", p.covered(0, square(30, 30 - (thick - 1) / 2)), 1);
            due.is("lowest", p.covered(0, square(30, 30 + thick / 2)), 1);
            due.is("left and right", p.covered(0, square(29, 30)) + p.covered(0, square(31, 30)), 0);
        }
    }

    private static void rowOrColumn() {
        due.sentence("A PATH: its number. BEYOND (CELL, LAYER, SQUARES), NO: not in one row or column, THICK; FULL.");
        RulePlate p = new RulePlate();
        int middle = square(30, 30);
        for (int by : new int[] {-65, -64, -63, -1, 0, 1, 63, 64, 65}) {
            boolean straight = by != 63 && by != 65 && by != -63 && by != -65;
            int got = p.path(0, 0, middle, middle + by, 1);
            due.is("path to + " + by, straight ? got >= 0 : got == Tell.NO);
        }
        due.is("a row's last to the next one's first", p.path(0, 0, 63, 64, 1), Tell.NO);
        due.is("from corner to corner", p.path(0, 0, 0, 4095, 1), Tell.NO);
        thickRefused(p);
    }

    private static void thickRefused(RulePlate p) {
        due.sentence("THICK (1 .. 9)");
        for (int thick : new int[] {Integer.MIN_VALUE, -1, 0, 10, Integer.MAX_VALUE}) {
            due.is("thick " + thick, p.path(0, 0, 0, 63, thick), Tell.NO);
            due.is("thick " + thick + ", one square", p.path(0, 0, 0, 0, thick), Tell.NO);
        }
        due.is("thick 1", p.path(0, 0, 0, 63, 1), 5);
        due.is("thick 9", p.path(0, 0, 0, 63, 9), 6);
    }

    private static void pathTurnedBack() {
        due.sentence("from one SQUARE to another in one row or column");
        int[][] ends = {{square(0, 5), square(63, 5)}, {square(5, 0), square(5, 63)}};
        for (int[] end : ends) {
            for (int from = 0; from < 2; from++) {
                RulePlate p = new RulePlate();
                p.path(0, 0, end[from], end[1 - from], 4);
                due.is("from border to border", p.flat(0), 4 * 64);
                due.is("one before", p.covered(0, square(4, 4)), 1);
                due.is("two behind", p.covered(0, square(7, 7)), 1);
                due.is("not two before", p.covered(0, square(3, 3)), 0);
                due.is("its square is the first one told", p.shape(0, 0, 2), end[from]);
            }
        }
    }

    private static void namesOfTexts() {
        due.sentence("3 TEXT: a NAME (1 .. 999) at a SQUARE of a LAYER");
        RulePlate p = new RulePlate();
        for (int name : new int[] {Integer.MIN_VALUE, -1, 0, 1000, 1001, Integer.MAX_VALUE}) {
            due.is("name " + name, p.text(0, 0, 0, name), Tell.NO);
        }
        due.is("name 1", p.text(0, 0, 0, 1), 0);
        due.is("name 999", p.text(0, 15, 4095, 999), 1);
        due.is("its layer", p.shape(0, 1, 1), 15);
        due.is("its square", p.shape(0, 1, 2), 4095);
        p.box(0, 0, 0, size(64, 64), false);
        p.made(15, 1, 0, 0);
        p.conducts(0, true);
        p.conducts(15, true);
        p.flat(0);
        p.circuit();
        due.is("least name", p.name(0, 0), 1);
        due.is("greatest name", p.name(1, 0), 999);
    }

    private static void lesserCells() {
        due.sentence("4 PUT: a CELL of a lesser number, at a SQUARE");
        for (int cell = 0; cell < 8; cell++) {
            RulePlate p = new RulePlate();
            for (int other = -1; other <= 8; other++) {
                boolean lesser = other >= 0 && other < cell;
                int got = p.put(cell, other, 4095, 0, false);
                due.is("put " + other + " into " + cell, got, lesser ? other : Tell.BEYOND);
            }
            due.is("put MIN", p.put(cell, Integer.MIN_VALUE, 0, 0, false), Tell.BEYOND);
            due.is("put MAX", p.put(cell, Integer.MAX_VALUE, 0, 0, false), Tell.BEYOND);
        }
    }

    private static void putRefused() {
        due.sentence("A PUT: its number. BEYOND (CELL; other: not a lesser one; SQUARE), NO: TURNED; FULL.");
        RulePlate p = new RulePlate();
        int[] far = {Integer.MIN_VALUE, -1, 8, Integer.MAX_VALUE};
        for (int cell : far) {
            due.is("cell " + cell, p.put(cell, 0, 0, 0, false), Tell.BEYOND);
        }
        due.is("the same cell", p.put(7, 7, 0, 0, false), Tell.BEYOND);
        due.is("a greater one", p.put(6, 7, 0, 0, false), Tell.BEYOND);
        due.is("square -1", p.put(7, 6, -1, 0, false), Tell.BEYOND);
        due.is("square 4096", p.put(7, 6, 4096, 0, false), Tell.BEYOND);
        for (int i = 0; i < 16; i++) {
            due.is("put " + i, p.put(7, i % 7, 4095 * (i % 2), i % 4, i > 7), i);
        }
        due.is("one more", p.put(7, 0, 0, 0, false), Tell.FULL);
        due.is("one more, turned by 4", p.put(7, 0, 0, 4, false), Tell.NO);
    }

    private static void turnedBy() {
        due.sentence("TURNED by 0 .. 3");
        RulePlate p = new RulePlate();
        for (int turned = -1; turned <= 4; turned++) {
            boolean right = turned >= 0 && turned <= 3;
            due.is("turned by " + turned, p.put(7, 0, 0, turned, false), right ? 2 * turned : Tell.NO);
            due.is("turned by " + turned, p.put(7, 6, 4095, turned, true), right ? 2 * turned + 1 : Tell.NO);
        }
        due.is("turned by MIN", p.put(7, 0, 0, Integer.MIN_VALUE, false), Tell.NO);
        due.is("turned by MAX", p.put(7, 0, 0, Integer.MAX_VALUE, false), Tell.NO);
    }

    private static void timesAtFirst() {
        due.sentence("so many TIMES in a row and a column (1 at first), so far from one to the next");
        RulePlate p = new RulePlate();
        Tell.dot(p, 0, 0, 0, 0);
        p.put(1, 0, square(10, 10), 0, false);
        due.is("once at first", p.flat(1), 1);
        p.times(1, 0, Tell.times(3, 2), Tell.times(4, 5));
        due.is("twelve times", p.flat(1), 12);
        p.times(1, 0, Tell.times(1, 2), Tell.times(1, 5));
        due.is("once again", p.flat(1), 1);
        p.undo(1);
        p.put(1, 0, square(10, 10), 0, false);
        due.is("a new one, once", p.flat(1), 1);
    }

    /** Every number from far below the least to far above the greatest, across and down. */
    private static void timesTold() {
        due.sentence("A PUT is so many TIMES across and down (1 .. 4 each), so far (-63 .. 63 each;"
            + " across told as 200 * times + far + 100, down likewise): 1. BEYOND (CELL, SHAPE), KIND, NO.");
        RulePlate p = new RulePlate();
        int calls = 0;
        for (int told = -350; told <= 1250; told++) {
            if (calls % 400 == 0) {
                p = new RulePlate();
                p.put(1, 0, 0, 0, false);
            }
            int want = canBeTold(told) ? 1 : Tell.NO;
            due.is("across " + told, p.times(1, 0, told, 300), want);
            due.is("down " + told, p.times(1, 0, 300, told), want);
            calls += 2;
        }
        for (int told : new int[] {Integer.MIN_VALUE, Integer.MIN_VALUE + 1, Integer.MAX_VALUE - 1, Integer.MAX_VALUE}) {
            due.is("across " + told, p.times(1, 0, told, 300), Tell.NO);
            due.is("down " + told, p.times(1, 0, 300, told), Tell.NO);
        }
    }

    private static boolean canBeTold(int told) {
        for (int many = 1; many <= 4; many++) {
            for (int far = -63; far <= 63; far++) {
                if (told == 200 * many + far + 100) {
                    return true;
                }
            }
        }
        return false;
    }

    private static void timesOfShapes() {
        due.sentence("BEYOND (CELL, SHAPE), KIND, NO.");
        RulePlate p = new RulePlate();
        p.box(1, 0, 0, size(1, 1), false);
        p.box(1, 0, 0, size(1, 1), true);
        p.path(1, 0, 0, 0, 1);
        p.text(1, 0, 0, 1);
        p.put(1, 0, 0, 0, false);
        for (int shape = 0; shape < 4; shape++) {
            due.is("times of a shape of kind " + shape, p.times(1, shape, 300, 300), Tell.KIND);
        }
        due.is("times of the put", p.times(1, 4, 300, 300), 1);
        due.is("behind the last", p.times(1, 5, 300, 300), Tell.BEYOND);
        due.is("ahead of the first", p.times(1, -1, 300, 300), Tell.BEYOND);
        due.is("of an empty cell", p.times(0, 0, 300, 300), Tell.BEYOND);
    }

    private static void undone() {
        due.sentence("The last SHAPE of a CELL goes: how many it has. BEYOND, MISSING: it has none.");
        RulePlate p = new RulePlate();
        for (int i = 0; i < 16; i++) {
            p.box(7, 0, i, size(1, 1), false);
        }
        for (int left = 15; left >= 0; left--) {
            due.is("undo", p.undo(7), left);
            due.is("squares left", p.flat(7), left);
            due.is("it is gone", p.shape(7, left, 0), Tell.BEYOND);
        }
        due.is("none left", p.undo(7), Tell.MISSING);
        due.is("cell -1", p.undo(-1), Tell.BEYOND);
        due.is("cell 8", p.undo(8), Tell.BEYOND);
        due.is("room again", p.box(7, 0, 0, size(1, 1), false), 0);
    }

    private static void shapesAsked() {
        due.sentence("Of a SHAPE: KIND (what = 0), LAYER, or the CELL that is PUT (1), its SQUARE (2)."
            + " BEYOND (CELL, SHAPE), NO.");
        RulePlate p = new RulePlate();
        p.put(7, 6, 4095, 0, false);
        p.box(7, 7, 0, size(1, 1), false);
        p.box(7, 0, 63, size(1, 1), true);
        p.path(7, 5, 4095, 4032, 1);
        p.text(7, 15, 64, 1);
        int[][] want = {{4, 6, 4095}, {0, 7, 0}, {1, 0, 63}, {2, 5, 4095}, {3, 15, 64}};
        for (int shape = 0; shape < 5; shape++) {
            for (int what = 0; what < 3; what++) {
                due.is("shape " + shape + ", what = " + what, p.shape(7, shape, what), want[shape][what]);
            }
        }
        for (int what : new int[] {Integer.MIN_VALUE, -1, 3, Integer.MAX_VALUE}) {
            due.is("what = " + what, p.shape(7, 0, what), Tell.NO);
        }
        for (int shape : new int[] {Integer.MIN_VALUE, -1, 5, 15, 16, Integer.MAX_VALUE}) {
            due.is("shape " + shape, p.shape(7, shape, 0), Tell.BEYOND);
        }
    }
}
