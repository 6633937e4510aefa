/** The document's sentences on what is laid flat, and on layers made of layers, that name a boundary. */
public final class FlatSentencesTest {
    private static final Due due = new Due();

    public static void main(String[] args) {
        boxesFallOff();
        pathsFallOff();
        putsFallOff();
        wholePlatesPut();
        holes();
        holesOfPuts();
        turnedAndMirrored();
        movedTimes();
        deepest();
        textsInOrder();
        textsFallOff();
        firstTexts();
        textsOfMadeLayers();
        asCellsWereThen();
        madeBelow();
        madeNumbers();
        mixed();
        grown();
        shrunk();
        layersApart();
        touched();
        touchedInOneRow();
        madeOfNothing();
        piecesBeside();
        piecesNumbered();
        piecesInOneRow();
        flatTold();
        goes();
        madeAsTold();
        areaTold();
        coveredTold();
        piecesTold();
        due.end();
    }

    private static int square(int x, int y) {
        return Tell.square(x, y);
    }

    private static int size(int wide, int high) {
        return Tell.size(wide, high);
    }

    /** Boxes of 4 by 3, moved along the right and the lower border. */
    private static void boxesFallOff() {
        due.sentence("What is beyond THE PLATE falls off.");
        for (int x = 59; x < 64; x++) {
            for (int y = 60; y < 64; y++) {
                RulePlate p = new RulePlate();
                p.box(0, 0, square(x, y), size(4, 3), false);
                due.is("box at " + x + ", " + y, p.flat(0), Math.min(4, 64 - x) * Math.min(3, 64 - y));
                due.is("does not go on at the left", p.covered(0, square(0, y)), 0);
                due.is("does not go on above", p.covered(0, square(x, 0)), 0);
                p.box(0, 0, 0, size(64, 64), false);
                p.box(0, 0, square(x, y), size(4, 3), true);
                due.is("hole", p.flat(0), 4096 - Math.min(4, 64 - x) * Math.min(3, 64 - y));
            }
        }
    }

    private static void pathsFallOff() {
        due.sentence("What is beyond THE PLATE falls off.");
        for (int thick = 1; thick <= 9; thick++) {
            int before = (thick - 1) / 2;
            int behind = thick / 2;
            for (int at = 0; at < 64; at += at == 5 ? 53 : 1) {
                int left = Math.min(before, at) + 1 + Math.min(behind, 63 - at);
                RulePlate p = new RulePlate();
                p.path(0, 0, square(0, at), square(63, at), thick);
                p.path(0, 1, square(at, 63), square(at, 0), thick);
                p.flat(0);
                due.is("row " + at + " of thick " + thick, p.area(0), 64 * left);
                due.is("column " + at + " of thick " + thick, p.area(1), 64 * left);
                due.is("row " + at, p.pieces(0, Tell.NONE), 1);
                due.is("column " + at, p.pieces(1, Tell.NONE), 1);
            }
        }
    }

    /** What fell off in a cell does not come back where that cell is put. */
    private static void putsFallOff() {
        due.sentence("What is beyond THE PLATE falls off.");
        RulePlate p = new RulePlate();
        p.box(0, 0, 0, size(4, 1), false);
        p.text(0, 0, 3, 5);
        p.put(1, 0, square(62, 0), 0, false);
        due.is("half falls off at the right", p.flat(1), 2);
        p.put(2, 1, square(30, 0), 0, false);
        p.times(2, 0, Tell.times(2, -60), Tell.times(1, 0));
        due.is("only what was on the plate comes", p.flat(2), 2);
        due.is("there", p.covered(0, 32), 1);
        due.is("and not behind it", p.covered(0, 34), 0);
        p.put(3, 0, square(1, 0), 0, false);
        p.times(3, 0, Tell.times(2, -3), Tell.times(1, 0));
        due.is("half falls off at the left", p.flat(3), 5);
        p.put(4, 3, square(10, 0), 0, false);
        due.is("only what was on the plate comes", p.flat(4), 5);
        due.is("there", p.covered(0, 10), 1);
        due.is("and not ahead of it", p.covered(0, 9), 0);
        p.conducts(0, true);
        p.flat(2);
        p.circuit();
        due.is("the text fell off, too", p.name(0, 0), Tell.NONE);
    }

    /** All squares of a cell, or those at one border, put in each way: what is left of them on the plate. */
    private static void wholePlatesPut() {
        due.sentence("What is beyond THE PLATE falls off.");
        int[][] places = {{0, 0}, {63, 0}, {0, 63}, {63, 63}, {20, 40}};
        for (int way = 0; way < 8; way++) {
            for (int[] place : places) {
                RulePlate p = new RulePlate();
                p.box(0, 0, 0, size(64, 64), false);
                p.box(0, 1, 0, size(1, 64), false);
                p.put(1, 0, square(place[0], place[1]), way % 4, way >= 4);
                p.flat(1);
                // by the words, 0, 0 comes to -1 in x by these ways, and to -1 in y by those
                boolean left = way == 1 || way == 2 || way == 4 || way == 5;
                boolean above = way == 2 || way == 3 || way == 5 || way == 6;
                int wide = left ? place[0] : 64 - place[0];
                int high = above ? place[1] : 64 - place[1];
                String what = "way " + way + " at " + place[0] + ", " + place[1];
                due.is(what + ": the whole plate", p.area(0), wide * high);
                boolean upright = way % 2 == 0;
                due.is(what + ": its left border", p.area(1), upright ? Math.min(wide, 1) * high : wide * Math.min(high, 1));
            }
        }
    }

    private static void holes() {
        due.sentence("its BOXES and PATHS; less all its HOLES of that LAYER; and what its PUTS bring");
        RulePlate p = new RulePlate();
        p.box(0, 0, 0, size(2, 2), true);
        due.is("a hole in nothing", p.flat(0), 0);
        p.box(0, 0, 0, size(4, 4), false);
        p.path(0, 0, square(0, 1), square(9, 1), 1);
        p.box(0, 1, 0, size(4, 4), false);
        due.is("told ahead of box and path", p.flat(0), 16 - 4 + 6 + 16);
        due.is("the path, too", p.covered(0, square(1, 1)), 0);
        due.is("not another layer", p.covered(1, square(1, 1)), 1);
        p.box(0, 0, 0, size(64, 64), true);
        due.is("the whole plate", p.flat(0), 16);
        p.text(0, 1, 0, 7);
        p.conducts(1, true);
        p.box(0, 1, square(1, 1), size(9, 9), true);
        p.flat(0);
        p.circuit();
        due.is("a text is no box", p.name(0, 0), 7);
    }

    private static void holesOfPuts() {
        due.sentence("less all its HOLES of that LAYER; and what its PUTS bring");
        RulePlate p = new RulePlate();
        p.box(0, 0, 0, size(3, 3), false);
        p.box(0, 0, square(1, 1), size(1, 1), true);
        p.box(1, 0, 0, size(64, 64), true);
        p.put(1, 0, 0, 0, false);
        p.box(1, 0, 0, size(64, 64), true);
        due.is("what is put has no holes of the cell it comes to", p.flat(1), 8);
        p.box(2, 0, 0, size(3, 3), false);
        p.put(2, 1, 0, 0, false);
        due.is("and brings none", p.flat(2), 9);
    }

    /** As the words have it, step by step, for squares in corners and inside. */
    private static void turnedAndMirrored() {
        due.sentence("MIRRORED: -1 - x, y; then TURNED: x, y becomes -1 - y, x, so many times;"
            + " then moved by the PUT's SQUARE");
        int[][] squares = {{0, 0}, {63, 0}, {0, 63}, {63, 63}, {5, 9}, {31, 32}};
        int[][] places = {{0, 0}, {63, 0}, {0, 63}, {63, 63}, {32, 32}};
        for (int way = 0; way < 8; way++) {
            for (int[] from : squares) {
                for (int[] place : places) {
                    int x = way >= 4 ? -1 - from[0] : from[0];
                    int y = from[1];
                    for (int i = 0; i < way % 4; i++) {
                        int was = x;
                        x = -1 - y;
                        y = was;
                    }
                    comes(way, from, place, x + place[0], y + place[1]);
                }
            }
        }
    }

    private static void comes(int way, int[] from, int[] place, int x, int y) {
        boolean stays = x >= 0 && x < 64 && y >= 0 && y < 64;
        RulePlate p = new RulePlate();
        Tell.dot(p, 0, 5, from[0], from[1]);
        p.text(0, 5, square(from[0], from[1]), 321);
        p.put(7, 0, square(place[0], place[1]), way % 4, way >= 4);
        p.conducts(5, true);
        String what = "way " + way + ", " + from[0] + ", " + from[1] + " at " + place[0] + ", " + place[1];
        due.is(what, p.flat(7), stays ? 1 : 0);
        due.is(what + ": nets", p.circuit(), stays ? 1 : 0);
        if (stays) {
            due.is(what + ": covered", p.covered(5, square(x, y)), 1);
            due.is(what + ": name", p.name(0, 0), 321);
        }
    }

    private static void movedTimes() {
        due.sentence("by i times across and j times down how far, for each i, j below TIMES");
        int[] fars = {-63, -20, -1, 0, 1, 20, 63};
        int[][] places = {{0, 0}, {63, 63}, {30, 31}};
        for (int many = 1; many <= 4; many++) {
            for (int far : fars) {
                for (int[] place : places) {
                    RulePlate p = new RulePlate();
                    Tell.dot(p, 0, 0, 0, 0);
                    p.put(1, 0, square(place[0], place[1]), 0, false);
                    p.times(1, 0, Tell.times(many, far), Tell.times(1, 0));
                    String what = many + " times " + far + " from " + place[0];
                    due.is(what + " across", p.flat(1), onPlate(many, far, place[0]));
                    p.times(1, 0, Tell.times(1, 0), Tell.times(many, far));
                    due.is(what + " down", p.flat(1), onPlate(many, far, place[1]));
                    p.times(1, 0, Tell.times(many, far), Tell.times(2, far));
                    due.is(what + " across and down", p.flat(1),
                        onPlate(many, far, place[0]) * onPlate(2, far, place[1]));
                }
            }
        }
    }

    /** How many different places are between 0 and 63. */
    private static int onPlate(int many, int far, int from) {
        int found = 0;
        for (int i = 0; i < (far == 0 ? 1 : many); i++) {
            if (from + i * far >= 0 && from + i * far < 64) {
                found++;
            }
        }
        return found;
    }

    /** Each cell puts the one below it: 0 comes to 7 by all of them. */
    private static void deepest() {
        due.sentence("of FLAT of the other CELL each SQUARE x, y comes to");
        RulePlate p = new RulePlate();
        Tell.dot(p, 0, 7, 0, 0);
        for (int cell = 1; cell < 8; cell++) {
            p.put(cell, cell - 1, square(1, 2), 0, false);
        }
        due.is("seven deep", p.flat(7), 1);
        due.is("moved seven times", p.covered(7, square(7, 14)), 1);
        Tell.dot(p, 0, 7, 1, 0);
        due.is("a change at the bottom comes up", p.flat(7), 2);
        for (int cell = 1; cell < 8; cell++) {
            p.times(cell, 0, Tell.times(4, 2), Tell.times(4, 2));
        }
        due.is("as often as can be", p.flat(7), 44 * 22);
        p.times(3, 0, Tell.times(1, 2), Tell.times(1, 2));
        due.is("less often in the middle", p.flat(7), 38 * 19);
    }

    private static void textsInOrder() {
        due.sentence("TEXTS come likewise: its own, by SHAPES, then PUT by PUT, j by j, i by i,"
            + " those of FLAT of the other CELL in order");
        RulePlate p = new RulePlate();
        p.text(0, 0, 0, 10);
        p.text(0, 0, 1, 11);
        p.put(1, 0, 0, 0, false);
        p.text(1, 0, 9, 20);
        p.put(1, 0, 0, 0, false);
        p.text(1, 0, 8, 21);
        p.box(2, 0, 0, size(64, 64), false);
        p.put(2, 1, square(8, 8), 0, false);
        p.put(2, 0, square(10, 0), 0, false);
        // the second across keeps 20 and 21 alone, the second down nothing
        p.times(2, 1, Tell.times(2, -10), Tell.times(2, 63));
        p.text(2, 0, 0, 30);
        p.conducts(0, true);
        p.flat(2);
        p.circuit();
        int[] want = {30, 20, 21, 10, 11, 10, 11, 20, 21, 10, 11, Tell.NONE};
        for (int i = 0; i < want.length; i++) {
            due.is("name(0, " + i + ")", p.name(0, i), want[i]);
        }
    }

    /** Three across and two down, of which some squares fall off. */
    private static void textsFallOff() {
        due.sentence("j by j, i by i, those of FLAT of the other CELL in order; what is beyond THE PLATE falls off");
        RulePlate p = new RulePlate();
        p.text(0, 0, square(0, 0), 1);
        p.text(0, 0, square(5, 0), 2);
        p.text(0, 0, square(0, 5), 3);
        p.box(1, 0, 0, size(64, 64), false);
        p.put(1, 0, square(60, 50), 0, false);
        p.times(1, 1, Tell.times(3, -4), Tell.times(2, 10));
        p.conducts(0, true);
        p.flat(1);
        p.circuit();
        // j = 0: i = 0 without 2; i = 1, at 56, with all; i = 2; j = 1, at 60: without 3
        int[] want = {1, 3, 1, 2, 3, 1, 2, 3, 1, 1, 2, 1, 2, Tell.NONE};
        for (int i = 0; i < want.length; i++) {
            due.is("name(0, " + i + ")", p.name(0, i), want[i]);
        }
    }

    private static void firstTexts() {
        due.sentence("of each CELL's the first 200 alone");
        RulePlate p = new RulePlate();
        p.box(0, 0, 0, size(1, 1), false);
        for (int i = 0; i < 12; i++) {
            p.text(0, 0, 0, 100 + i);
        }
        p.put(1, 0, 0, 0, false);
        p.times(1, 0, Tell.times(4, 0), Tell.times(4, 0));
        p.text(1, 0, 0, 50);
        for (int i = 0; i < 7; i++) {
            p.text(1, 0, 0, 51 + i);
        }
        p.conducts(0, true);
        p.flat(1);
        p.circuit();
        due.is("200: the last", p.name(0, 199), 111);
        due.is("200: none behind it", p.name(0, 200), Tell.NONE);
        p.text(1, 0, 0, 58);
        p.flat(1);
        p.circuit();
        due.is("201: the last", p.name(0, 199), 110);
        due.is("201: none behind it", p.name(0, 200), Tell.NONE);
        p.undo(1);
        p.undo(1);
        p.flat(1);
        p.circuit();
        due.is("199: the last", p.name(0, 198), 111);
        due.is("199: none behind it", p.name(0, 199), Tell.NONE);
        fallenDoNotCount();
        cutInTheLesserCell();
    }

    private static void fallenDoNotCount() {
        RulePlate p = new RulePlate();
        p.box(1, 0, 63, size(1, 1), false);
        for (int i = 0; i < 15; i++) {
            p.text(0, 0, i == 14 ? 0 : 1, 100 + i);
        }
        // of each sixteen times fifteen only the last stays on the plate
        for (int i = 0; i < 4; i++) {
            p.put(1, 0, 63, 0, false);
            p.times(1, 1 + i, Tell.times(4, 0), Tell.times(4, 0));
        }
        p.text(1, 0, 63, 9);
        p.conducts(0, true);
        p.flat(1);
        p.circuit();
        due.is("its own", p.name(0, 0), 9);
        due.is("64 stay", p.name(0, 64), 114);
        due.is("and no more", p.name(0, 65), Tell.NONE);
    }

    private static void cutInTheLesserCell() {
        RulePlate p = new RulePlate();
        p.box(0, 0, 0, size(2, 1), false);
        for (int i = 0; i < 13; i++) {
            p.text(0, 0, i == 12 ? 1 : 0, 100 + i);
        }
        p.put(1, 0, 0, 0, false);
        p.times(1, 0, Tell.times(4, 0), Tell.times(4, 0));
        // mirrored, the squares 0 and 1 come to 62 and 61: two squares left of 63
        p.put(2, 1, 63, 0, true);
        p.text(2, 0, 62, 7);
        p.conducts(0, true);
        p.flat(2);
        p.circuit();
        // 16 * 13 texts are cut to 200 in cell 1: fifteen times thirteen, and five more
        due.is("its own", p.name(0, 0), 7);
        due.is("the 199th that is brought", p.name(0, 199), 103);
        due.is("none behind it", p.name(0, 200), Tell.NONE);
        p.undo(2);
        p.flat(2);
        p.circuit();
        due.is("the 200th that is brought", p.name(0, 199), 104);
        due.is("none behind it, though there is room", p.name(0, 200), Tell.NONE);
    }

    private static void textsOfMadeLayers() {
        due.sentence("A TEXT: its number. BEYOND (CELL, any LAYER, SQUARE), NO: NAME; FULL.");
        RulePlate p = new RulePlate();
        p.text(0, 15, square(2, 1), 77);
        p.text(0, 7, square(2, 1), 78);
        p.text(0, 8, square(2, 1), 79);
        p.put(1, 0, square(20, 20), 1, false);
        p.box(1, 7, 0, size(64, 64), false);
        p.made(8, 1, 7, 7);
        p.made(15, 1, 8, 8);
        p.conducts(7, true);
        p.conducts(8, true);
        p.conducts(15, true);
        p.flat(1);
        due.is("circuit", p.circuit(), 3);
        due.is("of a drawn layer", p.name(0, 0), 78);
        due.is("of the first made one", p.name(1, 0), 79);
        due.is("of the last made one", p.name(2, 0), 77);
    }

    private static void asCellsWereThen() {
        due.sentence("THE DRAWING is FLAT of one CELL (told by flat());"
            + " THE DRAWING and all that is told of it is as the CELLS were then.");
        RulePlate p = new RulePlate();
        p.box(0, 0, 0, size(3, 3), false);
        p.text(0, 0, 0, 5);
        p.put(1, 0, 0, 0, false);
        p.rule(3, 0, 0, 99);
        p.conducts(0, true);
        p.flat(1);
        p.box(0, 0, square(9, 9), size(2, 2), false);
        p.text(0, 0, 1, 6);
        p.times(1, 0, Tell.times(2, 20), Tell.times(1, 0));
        p.made(8, 1, 0, 0);
        due.is("area", p.area(0), 9);
        due.is("covered", p.covered(0, square(9, 9)), 0);
        due.is("pieces", p.pieces(0, Tell.NONE), 1);
        due.is("lay", p.lay(0, 9), 0);
        due.is("run", p.run(), 1);
        due.is("circuit", p.circuit(), 1);
        due.is("first name", p.name(0, 0), 5);
        due.is("no second name", p.name(0, 1), Tell.NONE);
        due.is("made layer", p.area(8), 0);
        for (int i = 0; i < 3; i++) {
            p.undo(0);
        }
        due.is("area, shapes gone", p.area(0), 9);
        due.is("flat of the other cell", p.flat(0), 9);
        due.is("the drawing is of that cell now", p.area(8), 9);
        due.is("and of both puts", p.flat(1), 18);
    }

    private static void madeBelow() {
        due.sentence("A MADE LAYER k is of LAYERS a, b below k");
        for (int k = 8; k < 16; k++) {
            RulePlate p = new RulePlate();
            for (int op = 0; op < 6; op++) {
                boolean ofTwo = op < 3 || op == 5;
                due.is("a just below " + k + ", op " + op, p.made(k, op, k - 1, 0), 1);
                due.is("a is " + k + ", op " + op, p.made(k, op, k, 0), Tell.BEYOND);
                due.is("a is -1, op " + op, p.made(k, op, -1, 0), Tell.BEYOND);
                due.is("a is far, op " + op, p.made(k, op, Integer.MAX_VALUE, 0), Tell.BEYOND);
                due.is("b is " + (k - 1) + ", op " + op, p.made(k, op, 0, k - 1), ofTwo || k < 11 ? 1 : Tell.NO);
                due.is("b is " + k + ", op " + op, p.made(k, op, 0, k), ofTwo ? Tell.BEYOND : k < 10 ? 1 : Tell.NO);
                due.is("b is -1, op " + op, p.made(k, op, 0, -1), ofTwo ? Tell.BEYOND : Tell.NO);
            }
        }
    }

    private static void madeNumbers() {
        due.sentence("MADE LAYER k is told: 1. BEYOND (k 8 .. 15; a, and of 0, 1, 2, 5 b, below k),"
            + " NO: op; n of 3, 4 (told as b).");
        RulePlate p = new RulePlate();
        for (int k : new int[] {Integer.MIN_VALUE, -1, 0, 7, 16, Integer.MAX_VALUE}) {
            for (int op = -1; op <= 6; op++) {
                due.is("k " + k + ", op " + op, p.made(k, op, 0, 0), Tell.BEYOND);
            }
        }
        for (int op : new int[] {Integer.MIN_VALUE, -1, 6, Integer.MAX_VALUE}) {
            due.is("op " + op, p.made(15, op, 0, 0), Tell.NO);
            due.is("op " + op + ", any b", p.made(15, op, 0, 99), Tell.NO);
            due.is("op " + op + ", a", p.made(15, op, 15, 0), Tell.BEYOND);
        }
        for (int op = 3; op < 5; op++) {
            for (int n = -1; n <= 10; n++) {
                due.is("n " + n, p.made(8, op, 7, n), n >= 0 && n <= 9 ? 1 : Tell.NO);
            }
            due.is("n least", p.made(8, op, 7, Integer.MIN_VALUE), Tell.NO);
            due.is("n greatest", p.made(8, op, 7, Integer.MAX_VALUE), Tell.NO);
        }
    }

    /** Of none, of all, of a layer with itself. */
    private static void mixed() {
        due.sentence("0 AND, 1 OR, 2 LESS (a without b)");
        // 0: all, 1: none, 2: the left half
        int[][] want = {{4096, 0, 2048, 0, 0, 0, 2048, 0, 2048}, {4096, 4096, 4096, 4096, 0, 2048, 4096, 2048, 2048},
            {0, 4096, 2048, 0, 0, 0, 0, 2048, 0}};
        for (int op = 0; op < 3; op++) {
            for (int pair = 0; pair < 9; pair++) {
                RulePlate p = new RulePlate();
                p.box(0, 0, 0, size(64, 64), false);
                p.box(0, 2, 0, size(32, 64), false);
                p.made(8, op, pair / 3, pair % 3);
                p.flat(0);
                due.is("op " + op + " of " + pair / 3 + ", " + pair % 3, p.area(8), want[op][pair]);
            }
        }
    }

    private static void grown() {
        due.sentence("3 GROWN by n (0 .. 9): all SQUARES that differ by at most n in x, and in y, from one of a's");
        int[][] places = {{0, 0}, {63, 0}, {0, 63}, {63, 63}, {30, 30}, {5, 58}};
        for (int n = 0; n <= 9; n++) {
            for (int[] place : places) {
                RulePlate p = new RulePlate();
                Tell.dot(p, 0, 0, place[0], place[1]);
                p.made(8, 3, 0, n);
                p.flat(0);
                int wide = Math.min(63, place[0] + n) - Math.max(0, place[0] - n) + 1;
                int high = Math.min(63, place[1] + n) - Math.max(0, place[1] - n) + 1;
                due.is("grown by " + n + " at " + place[0] + ", " + place[1], p.area(8), wide * high);
                due.is("one piece", p.pieces(8, Tell.NONE), 1);
                due.is("its last corner", p.covered(8,
                    square(Math.min(63, place[0] + n), Math.min(63, place[1] + n))), 1);
                due.is("its first corner", p.covered(8,
                    square(Math.max(0, place[0] - n), Math.max(0, place[1] - n))), 1);
            }
        }
    }

    private static void shrunk() {
        due.sentence("4 SHRUNK by n: those of which all that differ so are a's (those beyond THE PLATE are none)");
        for (int n = 0; n <= 9; n++) {
            RulePlate p = new RulePlate();
            p.box(0, 0, 0, size(64, 64), false);
            p.box(0, 1, square(20, 20), size(2 * n + 1, 2 * n + 1), false);
            p.box(0, 2, square(20, 20), size(2 * n + 2, Math.max(1, 2 * n)), false);
            p.box(0, 3, square(45, 0), size(19, 19), false);
            for (int layer = 0; layer < 4; layer++) {
                p.made(8 + layer, 4, layer, n);
            }
            p.flat(0);
            due.is("the whole plate by " + n, p.area(8), (64 - 2 * n) * (64 - 2 * n));
            due.is("its first", p.covered(8, square(n, n)), 1);
            due.is("its last", p.covered(8, square(63 - n, 63 - n)), 1);
            due.is("just enough for one by " + n, p.area(9), 1);
            due.is("that one", p.covered(9, square(20 + n, 20 + n)), 1);
            due.is("one row too few by " + n, p.area(10), n == 0 ? 2 : 0);
            due.is("in the corner by " + n, p.area(11), (19 - 2 * n) * (19 - 2 * n));
            due.is("not at the border", n == 0 ? 0 : p.covered(11, square(63, n)), 0);
        }
    }

    /** What another layer has in its first or last rows is not beside the last or first rows of this one. */
    private static void layersApart() {
        due.sentence("(those beyond THE PLATE are none)");
        for (int layer = 1; layer < 7; layer++) {
            RulePlate p = new RulePlate();
            p.box(0, layer, 0, size(64, 64), false);
            p.box(0, layer - 1, square(0, 50), size(64, 14), false);
            p.box(0, layer + 1, 0, size(64, 14), false);
            p.box(1, layer - 1, 0, size(64, 64), false);
            p.box(1, layer + 1, 0, size(64, 64), false);
            for (int op = 3; op <= 4; op++) {
                p.made(8, op, layer, 9);
                p.made(9, op, 8, 9);
                p.made(10, 1, 1, 1);
                p.flat(0);
                due.is("op " + op + " of a full layer", p.area(8), op == 3 ? 4096 : 46 * 46);
                due.is("op " + op + " of that", p.area(9), op == 3 ? 4096 : 28 * 28);
                p.flat(1);
                due.is("op " + op + " of an empty layer between full ones", p.area(8), 0);
            }
        }
    }

    private static void touchedInOneRow() {
        due.sentence("5 TOUCHED: those PIECES of a that have a SQUARE in b.");
        for (int which = 0; which < 16; which++) {
            for (int y = 0; y < 64; y += 63) {
                RulePlate p = new RulePlate();
                int many = 0;
                for (int i = 0; i < 4; i++) {
                    p.path(0, 0, square(20 * i, y), square(20 * i + 3, y), 1);
                    if ((which >> i & 1) != 0) {
                        p.path(0, 1, square(20 * i + i, y), square(20 * i + i, y), 1);
                        many++;
                    }
                }
                p.made(8, 5, 0, 1);
                p.made(9, 5, 1, 0);
                p.flat(0);
                due.is("touched in row " + y, p.area(8), 4 * many);
                due.is("touching in row " + y, p.area(9), many);
                for (int i = 0; i < 4; i++) {
                    due.is("piece " + i + " in row " + y, p.covered(8, square(20 * i + 3, y)), which >> i & 1);
                }
            }
        }
    }

    private static void touched() {
        due.sentence("5 TOUCHED: those PIECES of a that have a SQUARE in b.");
        RulePlate p = new RulePlate();
        p.box(0, 0, square(0, 0), size(3, 3), false);
        p.box(0, 0, square(3, 3), size(3, 3), false);
        p.box(0, 0, square(61, 61), size(3, 3), false);
        p.box(0, 1, square(2, 2), size(1, 1), false);
        p.box(0, 1, square(6, 5), size(1, 1), false);
        p.box(0, 2, square(63, 63), size(1, 1), false);
        p.box(0, 3, 0, size(64, 64), false);
        p.made(8, 5, 0, 1);
        p.made(9, 5, 0, 2);
        p.made(10, 5, 0, 3);
        p.made(11, 5, 3, 0);
        p.made(12, 5, 0, 4);
        p.made(13, 5, 4, 0);
        p.made(14, 5, 0, 0);
        p.made(15, 5, 3, 4);
        p.flat(0);
        due.is("at its last square alone; not beside it, not over the corner", p.area(8), 9);
        due.is("at the plate's last square", p.area(9), 9);
        due.is("that one", p.covered(9, square(61, 61)), 1);
        due.is("by all", p.area(10), 27);
        due.is("all, by some", p.area(11), 4096);
        due.is("by none", p.area(12), 0);
        due.is("none", p.area(13), 0);
        due.is("by itself", p.area(14), 27);
        due.is("all, by none", p.area(15), 0);
    }

    private static void madeOfNothing() {
        due.sentence("(What is MADE of a LAYER that is empty, or not told, is made of no SQUARES.)");
        RulePlate p = new RulePlate();
        p.box(0, 0, 0, size(5, 5), false);
        for (int op = 0; op < 6; op++) {
            // 8 is not told, 7 is empty
            p.made(9 + op, op, 8, op == 3 || op == 4 ? 1 : 7);
        }
        p.flat(0);
        for (int op = 0; op < 6; op++) {
            due.is("op " + op + " of none", p.area(9 + op), 0);
        }
        p.made(9, 1, 0, 8);
        p.made(10, 1, 8, 0);
        p.made(11, 2, 0, 8);
        p.made(12, 0, 0, 8);
        p.made(13, 5, 0, 7);
        p.made(14, 4, 7, 0);
        p.flat(0);
        due.is("OR with one not told", p.area(9), 25);
        due.is("OR of one not told", p.area(10), 25);
        due.is("LESS one not told", p.area(11), 25);
        due.is("AND with one not told", p.area(12), 0);
        due.is("TOUCHED by an empty one", p.area(13), 0);
        due.is("an empty one, SHRUNK by 0", p.area(14), 0);
        due.is("not told", p.area(15), 0);
        p.made(8, 1, 0, 0);
        p.flat(0);
        due.is("told now", p.area(12), 25);
    }

    private static void piecesBeside() {
        due.sentence("PIECES of a LAYER: SQUARES of it beside one another (left and right, above and below), over others.");
        int[][] beside = {{1, 0}, {-1, 0}, {0, 1}, {0, -1}};
        int[][] apart = {{1, 1}, {-1, 1}, {1, -1}, {-1, -1}, {2, 0}, {0, 2}};
        for (int[] by : beside) {
            due.is("beside by " + by[0] + ", " + by[1], two(30, 30, by), 1);
        }
        for (int[] by : apart) {
            due.is("apart by " + by[0] + ", " + by[1], two(30, 30, by), 2);
        }
        due.is("a row's last and the next one's first", two(63, 10, new int[] {-63, 1}), 2);
        due.is("a row's first and last", two(0, 10, new int[] {63, 0}), 2);
        due.is("a column's first and last", two(10, 0, new int[] {0, 63}), 2);
        due.is("the plate's first and last", two(0, 0, new int[] {63, 63}), 2);
        due.is("in the corner", two(63, 63, new int[] {-1, 0}), 1);
        RulePlate p = new RulePlate();
        for (int i = 0; i < 15; i++) {
            p.path(0, 0, square(0, 4 * i), square(63, 4 * i), 1);
        }
        p.box(1, 0, square(0, 1), size(1, 3), false);
        p.put(2, 0, 0, 0, false);
        for (int i = 0; i < 7; i++) {
            p.put(2, 1, square(63, 8 * i), 0, false);
            p.put(2, 1, square(0, 8 * i + 4), 0, false);
        }
        due.is("a long one", p.flat(2), 15 * 64 + 14 * 3);
        due.is("over others", p.pieces(0, Tell.NONE), 1);
    }

    /** How many pieces two squares are. */
    private static int two(int x, int y, int[] by) {
        RulePlate p = new RulePlate();
        Tell.dot(p, 0, 0, x, y);
        Tell.dot(p, 0, 0, x + by[0], y + by[1]);
        p.flat(0);
        return p.pieces(0, Tell.NONE);
    }

    /** The piece that starts at the right is met first; the one at the left goes down and comes round. */
    private static void piecesNumbered() {
        due.sentence("PIECES are numbered by their least SQUARES.");
        RulePlate p = new RulePlate();
        p.path(0, 0, square(50, 0), square(50, 0), 1);
        p.path(0, 0, square(0, 1), square(0, 9), 1);
        p.path(0, 0, square(0, 9), square(62, 9), 1);
        p.path(0, 0, square(62, 0), square(62, 9), 1);
        p.path(0, 0, square(1, 0), square(2, 0), 1);
        p.flat(0);
        due.is("how many", p.pieces(0, Tell.NONE), 3);
        due.is("least square 1, 0", p.pieces(0, 0), 2);
        due.is("least square 50, 0", p.pieces(0, 1), 1);
        due.is("least square 62, 0", p.pieces(0, 2), 8 + 63 + 9);
        due.is("no more", p.pieces(0, 3), Tell.BEYOND);
    }

    /** In one row, from the first square to the last one. */
    private static void piecesInOneRow() {
        due.sentence("PIECES are numbered by their least SQUARES.");
        for (int y : new int[] {0, 30, 63}) {
            RulePlate p = new RulePlate();
            int x = 0;
            for (int i = 0; i < 10; i++) {
                p.path(0, 0, square(x, y), square(x + i, y), 1);
                x += i + 2;
            }
            p.rule(3, 0, 0, 99);
            p.flat(0);
            due.is("how many", p.pieces(0, Tell.NONE), 10);
            due.is("run", p.run(), 10);
            x = 0;
            for (int i = 0; i < 10; i++) {
                due.is("piece " + i, p.pieces(0, i), i + 1);
                due.is("its least", p.fault(i, 1), square(x, y));
                due.is("its greatest", p.fault(i, 2), square(x + i, y));
                x += i + 2;
            }
        }
    }

    private static void flatTold() {
        due.sentence("THE DRAWING is FLAT of a CELL, with the MADE LAYERS: how many SQUARES all DRAWN LAYERS have. BEYOND.");
        RulePlate p = new RulePlate();
        for (int layer = 0; layer < 8; layer++) {
            p.box(7, layer, 0, size(64, 64), false);
            p.made(8 + layer, 1, layer, layer);
        }
        due.is("as many as there can be", p.flat(7), 8 * 4096);
        due.is("an empty one", p.flat(0), 0);
        for (int cell : new int[] {Integer.MIN_VALUE, -1, 8, Integer.MAX_VALUE}) {
            due.is("cell " + cell, p.flat(cell), Tell.BEYOND);
        }
    }

    private static void goes() {
        due.sentence("(What run(), circuit(), same() told goes. MADE LAYERS are as told then.)");
        RulePlate p = new RulePlate();
        p.box(0, 0, 0, size(1, 1), false);
        p.rule(3, 0, 0, 9);
        p.conducts(0, true);
        p.flat(0);
        p.run();
        p.circuit();
        p.same();
        due.is("fault", p.fault(0, 0), 0);
        due.is("net", p.net(0, 0), 0);
        due.is("pair", p.pair(0, true), Tell.NONE);
        due.is("flat of the same cell", p.flat(0), 1);
        due.is("fault", p.fault(0, 0), Tell.MISSING);
        due.is("faults", p.faults(0, 0), Tell.MISSING);
        due.is("net", p.net(0, 0), Tell.MISSING);
        due.is("name", p.name(0, 0), Tell.MISSING);
        due.is("device", p.device(Tell.NONE, 0), Tell.MISSING);
        due.is("pair", p.pair(0, true), Tell.MISSING);
        due.is("same", p.same(), Tell.MISSING);
    }

    private static void madeAsTold() {
        due.sentence("MADE LAYERS are as told then.");
        RulePlate p = new RulePlate();
        p.box(0, 0, 0, size(3, 3), false);
        p.made(8, 3, 0, 1);
        p.flat(0);
        p.made(8, 4, 0, 1);
        p.made(9, 1, 0, 0);
        due.is("told anew, not yet made", p.area(8), 16);
        due.is("told, not yet made", p.area(9), 0);
        due.is("a refused one", p.made(8, 3, 0, 10), Tell.NO);
        p.flat(0);
        due.is("made", p.area(8), 1);
        due.is("made", p.area(9), 9);
    }

    private static void areaTold() {
        due.sentence("How many SQUARES a LAYER of THE DRAWING has. BEYOND, MISSING.");
        RulePlate p = new RulePlate();
        for (int layer : new int[] {Integer.MIN_VALUE, -1, 16, Integer.MAX_VALUE}) {
            due.is("area of " + layer, p.area(layer), Tell.BEYOND);
        }
        due.is("no drawing", p.area(15), Tell.MISSING);
        p.box(0, 7, 0, size(64, 64), false);
        p.made(15, 1, 7, 7);
        p.flat(0);
        due.is("empty", p.area(0), 0);
        due.is("full", p.area(7), 4096);
        due.is("made", p.area(15), 4096);
    }

    private static void coveredTold() {
        due.sentence("Whether a SQUARE is in a LAYER: 1, or 0. BEYOND (either), MISSING.");
        RulePlate p = new RulePlate();
        due.is("no drawing", p.covered(15, 4095), Tell.MISSING);
        due.is("layer, no drawing", p.covered(16, 4095), Tell.BEYOND);
        due.is("square, no drawing", p.covered(15, 4096), Tell.BEYOND);
        p.box(0, 0, 0, size(1, 1), false);
        p.box(0, 7, 4095, size(1, 1), false);
        p.flat(0);
        due.is("first", p.covered(0, 0), 1);
        due.is("second", p.covered(0, 1), 0);
        due.is("last", p.covered(7, 4095), 1);
        due.is("last but one", p.covered(7, 4094), 0);
        due.is("layer", p.covered(-1, 0), Tell.BEYOND);
        due.is("square", p.covered(0, -1), Tell.BEYOND);
        due.is("square", p.covered(0, 4096), Tell.BEYOND);
    }

    private static void piecesTold() {
        due.sentence("How many PIECES a LAYER has (i = NONE), or how many SQUARES its PIECE i has."
            + " BEYOND (LAYER), MISSING, BEYOND (no such PIECE).");
        RulePlate p = new RulePlate();
        due.is("layer, no drawing", p.pieces(-1, Tell.NONE), Tell.BEYOND);
        due.is("layer, no drawing", p.pieces(16, Tell.NONE), Tell.BEYOND);
        due.is("no drawing", p.pieces(0, -5), Tell.MISSING);
        due.is("no drawing", p.pieces(0, Tell.NONE), Tell.MISSING);
        p.box(0, 0, 0, size(64, 64), false);
        p.flat(0);
        due.is("one", p.pieces(0, Tell.NONE), 1);
        due.is("the whole plate", p.pieces(0, 0), 4096);
        due.is("of an empty layer", p.pieces(15, Tell.NONE), 0);
        for (int i : new int[] {Integer.MIN_VALUE, -2, 1, 4096, Integer.MAX_VALUE}) {
            due.is("piece " + i, p.pieces(0, i), Tell.BEYOND);
        }
        due.is("piece 0 of an empty layer", p.pieces(15, 0), Tell.BEYOND);
    }
}
