/** The document's sentences on the circuit that name a boundary, one by one. */
public final class CircuitSentencesTest {
    private static final Due due = new Due();
    private static final int[] WRONG_LAYERS = {Integer.MIN_VALUE, -1, 16, Integer.MAX_VALUE};
    private static final int[][] BESIDE = {{0, -1}, {-1, 0}, {1, 0}, {0, 1}};

    public static void main(String[] args) {
        conductors();
        jointsAtMost();
        jointsAsked();
        jointSquares();
        jointConductors();
        netsBeside();
        netsOverOthers();
        netsNumbered();
        mostNets();
        textsName();
        sizesOfDevices();
        gatesOfDevices();
        endsBeside();
        endsAtBorders();
        endsOfItsOwn();
        endsFirstTwo();
        devicesNumbered();
        gatesTold();
        circuitRefused();
        asToldThen();
        circuitOfNothing();
        netAsked();
        nameAsked();
        deviceAsked();
        noGates();
        due.end();
    }

    private static int square(int x, int y) {
        return Tell.square(x, y);
    }

    private static int size(int wide, int high) {
        return Tell.size(wide, high);
    }

    private static void conductors() {
        due.sentence("A LAYER is a CONDUCTOR, or not: whether it was. BEYOND.");
        RulePlate p = new RulePlate();
        for (int layer = 0; layer < 16; layer++) {
            due.is("not at first", p.conducts(layer, false), 0);
            due.is("not yet", p.conducts(layer, true), 0);
            due.is("it was", p.conducts(layer, true), 1);
        }
        for (int layer = 0; layer < 16; layer++) {
            due.is("it was", p.conducts(layer, false), 1);
            due.is("no more", p.conducts(layer, false), 0);
        }
        for (int layer : WRONG_LAYERS) {
            due.is("layer " + layer, p.conducts(layer, true), Tell.BEYOND);
            due.is("layer " + layer, p.conducts(layer, false), Tell.BEYOND);
        }
    }

    private static void jointsAtMost() {
        due.sentence("JOINTS (8 at most): LAYERS a, v, b");
        RulePlate p = new RulePlate();
        // 7 is a row; each of 0 .. 6 is a square in it, and 8 .. 14 are these, grown; 15 is the last, too
        p.path(0, 7, square(0, 30), square(63, 30), 1);
        for (int i = 0; i < 7; i++) {
            Tell.dot(p, 0, i, 8 * i, 30);
            p.made(8 + i, 3, i, 1);
            p.conducts(8 + i, true);
        }
        p.made(15, 3, 6, 2);
        p.conducts(15, true);
        p.conducts(7, true);
        p.flat(0);
        for (int i = 0; i < 8; i++) {
            due.is("nets with " + i, p.circuit(), 9 - i);
            due.is("joint " + i, p.joint(i == 7 ? 15 : 7, Math.min(i, 6), i == 7 ? 7 : 8 + i), i + 1);
            p.circuit();
            due.is("what is joined", p.net(8 + i, square(8 * Math.min(i, 6), 30)), 0);
        }
        due.is("nets with 8", p.circuit(), 1);
        due.is("one more", p.joint(0, 0, 8), Tell.FULL);
        due.is("the same once more", p.joint(7, 0, 8), Tell.FULL);
    }

    private static void jointsAsked() {
        due.sentence("A JOINT: how many. BEYOND, FULL.");
        RulePlate p = new RulePlate();
        for (int layer : WRONG_LAYERS) {
            due.is("a " + layer, p.joint(layer, 0, 0), Tell.BEYOND);
            due.is("v " + layer, p.joint(0, layer, 0), Tell.BEYOND);
            due.is("b " + layer, p.joint(0, 0, layer), Tell.BEYOND);
        }
        due.is("none of these came", p.joint(15, 15, 15), 1);
        for (int i = 2; i <= 8; i++) {
            due.is("the same again", p.joint(15, 15, 15), i);
        }
        due.is("full", p.joint(15, 15, 15), Tell.FULL);
        due.is("full, and beyond", p.joint(15, 16, 15), Tell.BEYOND);
    }

    private static void jointSquares() {
        due.sentence("at each SQUARE of v that is in a and in b, both CONDUCTORS, these are joined");
        int[] places = {0, 63, 64, 4032, 4095};
        for (int at : places) {
            for (int lacking = 0; lacking < 4; lacking++) {
                RulePlate p = new RulePlate();
                for (int layer = 0; layer < 3; layer++) {
                    int other = at ^ 1;
                    p.box(0, layer, lacking == layer + 1 ? other : at, size(1, 1), false);
                    p.conducts(layer, layer != 1);
                }
                p.joint(0, 1, 2);
                p.flat(0);
                due.is("at " + at + ", lacking " + lacking, p.circuit(), lacking == 0 ? 1 : 2);
            }
        }
    }

    private static void jointConductors() {
        due.sentence("that is in a and in b, both CONDUCTORS, these are joined");
        for (int which = 0; which < 4; which++) {
            RulePlate p = new RulePlate();
            p.box(0, 0, 0, size(1, 1), false);
            p.box(0, 0, 2, size(1, 1), false);
            p.box(0, 1, 0, size(3, 1), false);
            p.conducts(0, which != 1 && which != 3);
            p.conducts(1, which < 2);
            p.joint(0, 0, 1);
            p.flat(0);
            int[] nets = {1, 1, 2, 0};
            due.is("nets, which " + which, p.circuit(), nets[which]);
        }
        RulePlate p = new RulePlate();
        p.box(0, 0, 0, size(1, 1), false);
        p.box(0, 0, 2, size(1, 1), false);
        p.conducts(0, true);
        p.joint(0, 0, 0);
        p.flat(0);
        due.is("a layer joined with itself", p.circuit(), 2);
    }

    private static void netsBeside() {
        due.sentence("NETS: SQUARES of CONDUCTORS beside one another in one LAYER, or joined, over others.");
        due.is("right", two(30, 30, 0, 31, 30, 0), 1);
        due.is("left", two(30, 30, 0, 29, 30, 0), 1);
        due.is("above", two(30, 30, 0, 30, 29, 0), 1);
        due.is("below", two(30, 30, 0, 30, 31, 0), 1);
        due.is("at a corner", two(30, 30, 0, 31, 31, 0), 2);
        due.is("at the other corner", two(30, 30, 0, 29, 31, 0), 2);
        due.is("a row's last and the next one's first", two(63, 30, 0, 0, 31, 0), 2);
        due.is("a layer's last row and the next one's first", two(5, 63, 0, 5, 0, 1), 2);
        due.is("a layer's last square and the next one's first", two(63, 63, 0, 0, 0, 1), 2);
        due.is("one square of two layers", two(30, 30, 0, 30, 30, 1), 2);
        due.is("beside one another of two layers", two(30, 30, 0, 31, 30, 1), 2);
        due.is("one square of one layer", two(30, 30, 7, 30, 30, 7), 1);
    }

    private static int two(int x, int y, int layer, int otherX, int otherY, int otherLayer) {
        RulePlate p = new RulePlate();
        Tell.dot(p, 0, layer, x, y);
        Tell.dot(p, 0, otherLayer, otherX, otherY);
        p.conducts(layer, true);
        p.conducts(otherLayer, true);
        p.flat(0);
        return p.circuit();
    }

    private static void netsOverOthers() {
        due.sentence("beside one another in one LAYER, or joined, over others");
        RulePlate p = new RulePlate();
        // up and down between two layers, like a seam
        for (int i = 0; i < 5; i++) {
            p.box(0, 0, square(4 * i, 0), size(3, 1), false);
            p.box(0, 1, square(4 * i + 2, 0), size(3, 1), false);
        }
        p.conducts(0, true);
        p.conducts(1, true);
        p.flat(0);
        due.is("not joined", p.circuit(), 10);
        p.joint(1, 0, 0);
        due.is("joined", p.circuit(), 1);
        due.is("its first", p.net(0, 0), 0);
        due.is("its last", p.net(1, 20), 0);
        p.box(0, 0, square(8, 0), size(1, 1), true);
        p.flat(0);
        due.is("parted", p.circuit(), 2);
        due.is("what is behind", p.net(1, 20), 1);
    }

    private static void netsNumbered() {
        due.sentence("They are numbered by their least place (LAYER, then SQUARE).");
        RulePlate p = new RulePlate();
        Tell.dot(p, 0, 3, 0, 0);
        Tell.dot(p, 0, 1, 63, 63);
        Tell.dot(p, 0, 1, 0, 63);
        Tell.dot(p, 0, 1, 9, 0);
        Tell.dot(p, 0, 7, 0, 63);
        Tell.dot(p, 0, 7, 5, 5);
        for (int layer = 1; layer < 8; layer += 2) {
            p.conducts(layer, true);
        }
        p.flat(0);
        due.is("circuit", p.circuit(), 6);
        due.is("9, 0 of layer 1", p.net(1, 9), 0);
        due.is("0, 63 of layer 1", p.net(1, square(0, 63)), 1);
        due.is("63, 63 of layer 1", p.net(1, 4095), 2);
        due.is("0, 0 of layer 3", p.net(3, 0), 3);
        due.is("5, 5 of layer 7", p.net(7, square(5, 5)), 4);
        due.is("0, 63 of layer 7", p.net(7, square(0, 63)), 5);
        p.joint(7, 7, 1);
        due.is("joined", p.circuit(), 5);
        due.is("by the least", p.net(7, square(0, 63)), 1);
        due.is("the others", p.net(7, square(5, 5)), 4);
    }

    private static void mostNets() {
        due.sentence("They are numbered by their least place (LAYER, then SQUARE).");
        RulePlate p = new RulePlate();
        for (int layer = 0; layer < 8; layer++) {
            Tell.dot(p, 0, layer, 0, 0);
            Tell.dot(p, 0, layer, 1, 1);
        }
        for (int cell = 1; cell <= 5; cell++) {
            p.put(cell, cell - 1, 0, 0, false);
            p.times(cell, 0, Tell.times(2, 1 << cell), Tell.times(2, 1 << cell));
        }
        for (int layer = 0; layer < 16; layer++) {
            if (layer >= 8) {
                p.made(layer, 1, layer - 8, layer - 8);
            }
            p.conducts(layer, true);
        }
        p.flat(5);
        due.is("as many nets as there can be", p.circuit(), 16 * 2048);
        due.is("the last one", p.net(15, 4095), 16 * 2048 - 1);
        due.is("it has no name", p.name(16 * 2048 - 1, 0), Tell.NONE);
        due.is("none behind it", p.name(16 * 2048, 0), Tell.BEYOND);
    }

    private static void textsName() {
        due.sentence("A TEXT NAMES the NET that has its SQUARE in its LAYER.");
        RulePlate p = new RulePlate();
        p.box(0, 0, 0, size(4, 1), false);
        p.box(0, 1, 0, size(4, 1), false);
        p.box(0, 2, 0, size(4, 1), false);
        p.text(0, 0, 4, 10);
        p.text(0, 0, 64, 11);
        p.text(0, 2, 0, 12);
        p.text(0, 3, 0, 13);
        p.text(0, 1, 3, 14);
        p.conducts(0, true);
        p.conducts(1, true);
        p.conducts(3, true);
        p.flat(0);
        p.circuit();
        due.is("none in its layer at its square", p.name(0, 0), Tell.NONE);
        due.is("at the last square", p.name(1, 0), 14);
        due.is("no other", p.name(1, 1), Tell.NONE);
        p.conducts(2, true);
        p.circuit();
        due.is("its layer conducts now", p.name(2, 0), 12);
        p.joint(0, 0, 1);
        p.circuit();
        due.is("joined, one net has it", p.name(0, 0), 14);
    }

    private static void sizesOfDevices() {
        due.sentence("each PIECE of g AND w is a DEVICE: its SIZE, how many SQUARES");
        RulePlate p = new RulePlate();
        Tell.dot(p, 0, 0, 0, 0);
        Tell.dot(p, 0, 0, 1, 1);
        p.box(0, 1, 0, size(64, 64), false);
        p.box(0, 2, 0, size(64, 64), false);
        p.box(0, 3, 0, size(32, 64), false);
        p.conducts(7, true);
        p.flat(0);
        int[][] want = {{0, 1, 2, 1}, {1, 2, 1, 4096}, {3, 1, 1, 2048}, {0, 4, 0, 0}, {4, 0, 0, 0}, {1, 1, 1, 4096}};
        for (int[] row : want) {
            p.gates(row[0], row[1], 7);
            p.circuit();
            String what = "devices of " + row[0] + " and " + row[1];
            due.is(what, p.device(Tell.NONE, 0), row[2]);
            due.is(what + ": size of the first", p.device(0, 0), row[2] == 0 ? Tell.BEYOND : row[3]);
        }
    }

    private static void gatesOfDevices() {
        due.sentence("its GATE: the NET of g (if g is a CONDUCTOR) at its least SQUARE");
        RulePlate p = new RulePlate();
        p.box(0, 5, 0, size(9, 1), false);
        p.path(0, 2, square(20, 10), square(20, 20), 3);
        p.path(0, 1, square(10, 15), square(30, 15), 3);
        p.conducts(1, true);
        p.gates(2, 1, 1);
        p.flat(0);
        p.circuit();
        due.is("g is no conductor", p.device(0, 1), Tell.NONE);
        p.conducts(2, true);
        p.circuit();
        due.is("g is a conductor", p.device(0, 1), 1);
        p.conducts(2, false);
        due.is("as told then", p.device(0, 1), 1);
        p.circuit();
        due.is("not any more", p.device(0, 1), Tell.NONE);
        p.gates(1, 2, 1);
        p.circuit();
        due.is("g and w changed about", p.device(0, 1), 0);
    }

    /** A device of one square, and an end beside it, or over its corner, or two squares away. */
    private static void endsBeside() {
        due.sentence("its ENDS: NETS of c that have a SQUARE beside one of its SQUARES");
        for (int byX = -2; byX <= 2; byX++) {
            for (int byY = -2; byY <= 2; byY++) {
                RulePlate p = new RulePlate();
                Tell.dot(p, 0, 0, 30, 30);
                Tell.dot(p, 0, 1, 30 + byX, 30 + byY);
                p.conducts(1, true);
                p.gates(0, 0, 1);
                p.flat(0);
                p.circuit();
                boolean beside = Math.abs(byX) + Math.abs(byY) <= 1;
                due.is("end by " + byX + ", " + byY, p.device(0, 2), beside ? 0 : Tell.NONE);
                due.is("no second end", p.device(0, 3), Tell.NONE);
            }
        }
    }

    /** What is beside a square at the border is not in another row, or at the other border. */
    private static void endsAtBorders() {
        due.sentence("NETS of c that have a SQUARE beside one of its SQUARES");
        int[][] places = {{0, 0}, {63, 0}, {0, 63}, {63, 63}, {0, 30}, {63, 30}, {30, 0}, {30, 63}};
        for (int[] place : places) {
            RulePlate p = new RulePlate();
            Tell.dot(p, 0, 0, place[0], place[1]);
            p.box(0, 1, 0, size(64, 64), false);
            p.box(0, 1, square(place[0], place[1]), size(1, 1), true);
            int beside = 0;
            for (int[] by : BESIDE) {
                int x = place[0] + by[0];
                int y = place[1] + by[1];
                if (x >= 0 && x < 64 && y >= 0 && y < 64) {
                    p.box(0, 1, square(x, y), size(1, 1), true);
                    beside++;
                }
            }
            p.conducts(1, true);
            p.gates(0, 0, 1);
            p.flat(0);
            due.is("circuit", p.circuit(), 1);
            due.is("all but what is beside " + place[0] + ", " + place[1], p.device(0, 2), Tell.NONE);
            due.is("that many squares are", p.area(1), 4095 - beside);
            for (int i = 0; i < beside; i++) {
                p.undo(0);
                p.flat(0);
                p.circuit();
                due.is("one of them there", p.device(0, 2), 0);
            }
        }
    }

    private static void endsOfItsOwn() {
        due.sentence("that have a SQUARE beside one of its SQUARES (or one of its own)");
        RulePlate p = new RulePlate();
        p.box(0, 0, square(10, 10), size(3, 3), false);
        Tell.dot(p, 0, 1, 11, 11);
        Tell.dot(p, 0, 1, 12, 12);
        p.conducts(1, true);
        p.gates(0, 0, 1);
        p.flat(0);
        p.circuit();
        due.is("in its middle", p.device(0, 2), 0);
        due.is("in its corner", p.device(0, 3), 1);
        p.conducts(0, true);
        p.gates(0, 0, 0);
        p.circuit();
        due.is("it is its own end", p.device(0, 2), 0);
        due.is("and has no other", p.device(0, 3), Tell.NONE);
        due.is("and its own gate", p.device(0, 1), 0);
    }

    /** Ends above, on the left, on the right and below; each may be lacking. */
    private static void endsFirstTwo() {
        due.sentence("by numbers, the first two");
        for (int there = 0; there < 16; there++) {
            RulePlate p = new RulePlate();
            Tell.dot(p, 0, 0, 30, 30);
            int many = 0;
            for (int i = 0; i < 4; i++) {
                if ((there >> i & 1) != 0) {
                    Tell.dot(p, 0, 1, 30 + BESIDE[i][0], 30 + BESIDE[i][1]);
                    many++;
                }
            }
            p.conducts(1, true);
            p.gates(0, 0, 1);
            p.flat(0);
            due.is("circuit", p.circuit(), many);
            due.is("first end of " + many, p.device(0, 2), many > 0 ? 0 : Tell.NONE);
            due.is("second end of " + many, p.device(0, 3), many > 1 ? 1 : Tell.NONE);
        }
        // on the right and below is the net of the least number; above and on the left are the others
        RulePlate p = new RulePlate();
        Tell.dot(p, 0, 0, 30, 30);
        p.path(0, 1, square(33, 5), square(33, 31), 1);
        p.path(0, 1, square(30, 31), square(33, 31), 1);
        p.path(0, 1, square(31, 30), square(33, 30), 1);
        p.conducts(1, true);
        p.gates(0, 0, 1);
        p.flat(0);
        due.is("circuit", p.circuit(), 1);
        due.is("from both sides it is one end", p.device(0, 2), 0);
        due.is("and no second one", p.device(0, 3), Tell.NONE);
        Tell.dot(p, 0, 1, 30, 29);
        Tell.dot(p, 0, 1, 29, 30);
        p.flat(0);
        due.is("circuit", p.circuit(), 3);
        due.is("met last, but the least", p.device(0, 2), 0);
        due.is("met first", p.device(0, 3), 1);
    }

    private static void devicesNumbered() {
        due.sentence("They are numbered by their least SQUARES.");
        RulePlate p = new RulePlate();
        p.path(0, 0, square(40, 3), square(40, 9), 1);
        p.path(0, 0, square(2, 9), square(40, 9), 1);
        p.box(0, 0, square(2, 4), size(2, 2), false);
        Tell.dot(p, 0, 0, 63, 3);
        Tell.dot(p, 0, 0, 0, 63);
        p.box(0, 1, 0, size(64, 64), false);
        p.conducts(7, true);
        p.gates(0, 1, 7);
        p.flat(0);
        p.circuit();
        int[] sizes = {7 + 38, 1, 4, 1};
        due.is("devices", p.device(Tell.NONE, 0), 4);
        for (int i = 0; i < 4; i++) {
            due.is("size of device " + i, p.device(i, 0), sizes[i]);
        }
    }

    private static void gatesTold() {
        due.sentence("GATES are of g, w and c: 1. BEYOND; NO: c is no CONDUCTOR.");
        RulePlate p = new RulePlate();
        for (int layer : WRONG_LAYERS) {
            due.is("g " + layer, p.gates(layer, 0, 0), Tell.BEYOND);
            due.is("w " + layer, p.gates(0, layer, 0), Tell.BEYOND);
            due.is("c " + layer, p.gates(0, 0, layer), Tell.BEYOND);
        }
        due.is("c conducts not", p.gates(0, 0, 0), Tell.NO);
        p.conducts(0, true);
        due.is("another conducts", p.gates(0, 0, 15), Tell.NO);
        due.is("c conducts", p.gates(15, 15, 0), 1);
        p.conducts(15, true);
        due.is("the last layer", p.gates(0, 0, 15), 1);
        p.conducts(0, false);
        due.is("c conducts no more", p.gates(0, 0, 0), Tell.NO);
        Tell.dot(p, 0, 0, 0, 0);
        p.flat(0);
        due.is("the refused ones are not told", p.circuit(), 0);
        due.is("the last told ones are", p.device(Tell.NONE, 0), 1);
    }

    private static void circuitRefused() {
        due.sentence("how many NETS. MISSING; NO: GATES were told, and c is no CONDUCTOR any more.");
        RulePlate p = new RulePlate();
        due.is("no drawing", p.circuit(), Tell.MISSING);
        p.conducts(3, true);
        p.gates(0, 1, 3);
        p.flat(0);
        due.is("c conducts", p.circuit(), 0);
        p.conducts(3, false);
        due.is("c conducts no more", p.circuit(), Tell.NO);
        due.is("what was found stays", p.device(Tell.NONE, 0), 0);
        due.is("flat", p.flat(0), 0);
        due.is("c conducts no more", p.circuit(), Tell.NO);
        due.is("nothing was found", p.device(Tell.NONE, 0), Tell.MISSING);
        p.conducts(0, true);
        p.gates(0, 1, 0);
        due.is("another c", p.circuit(), 0);
    }

    private static void asToldThen() {
        due.sentence("THE CIRCUIT of THE DRAWING is found, with CONDUCTORS, JOINTS, GATES as told then");
        RulePlate p = new RulePlate();
        p.box(0, 0, 0, size(3, 1), false);
        p.box(0, 1, 1, size(1, 1), false);
        p.box(0, 2, 1, size(1, 1), false);
        p.conducts(0, true);
        p.conducts(1, true);
        p.gates(1, 2, 0);
        p.flat(0);
        due.is("circuit", p.circuit(), 2);
        p.conducts(1, false);
        p.conducts(2, true);
        p.joint(0, 0, 1);
        p.gates(2, 0, 0);
        due.is("a conductor then", p.net(1, 1), 1);
        due.is("no conductor then", p.net(2, 1), Tell.NO);
        due.is("not joined then", p.net(0, 0), 0);
        due.is("gate of then", p.device(0, 1), 1);
        due.is("flat", p.flat(0), 5);
        due.is("circuit", p.circuit(), 2);
        due.is("no conductor now", p.net(1, 1), Tell.NO);
        due.is("a conductor now", p.net(2, 1), 1);
    }

    private static void circuitOfNothing() {
        due.sentence("THE CIRCUIT of THE DRAWING is found");
        RulePlate p = new RulePlate();
        p.box(0, 0, 0, size(64, 64), false);
        p.flat(0);
        due.is("no conductors", p.circuit(), 0);
        due.is("no net 0", p.name(0, 0), Tell.BEYOND);
        p.conducts(1, true);
        due.is("an empty conductor", p.circuit(), 0);
        due.is("none there", p.net(1, 0), Tell.NONE);
        p.conducts(0, true);
        due.is("a full one", p.circuit(), 1);
        due.is("its last square", p.net(0, 4095), 0);
    }

    private static void netAsked() {
        due.sentence("The NET at a SQUARE of a CONDUCTOR; NONE: there is none."
            + " BEYOND, MISSING: no circuit() of THE DRAWING; NO: it was no CONDUCTOR then.");
        RulePlate p = new RulePlate();
        for (int state = 0; state < 3; state++) {
            for (int layer : WRONG_LAYERS) {
                due.is("layer " + layer, p.net(layer, 0), Tell.BEYOND);
            }
            for (int at : new int[] {Integer.MIN_VALUE, -1, 4096, Integer.MAX_VALUE}) {
                due.is("square " + at, p.net(0, at), Tell.BEYOND);
                due.is("square " + at + " of no conductor", p.net(1, at), Tell.BEYOND);
            }
            due.is("a conductor", p.net(0, 0), state < 2 ? Tell.MISSING : Tell.NONE);
            due.is("no conductor", p.net(15, 4095), state < 2 ? Tell.MISSING : Tell.NO);
            p.conducts(0, true);
            if (state == 0) {
                p.flat(0);
            } else {
                p.circuit();
            }
        }
        Tell.dot(p, 0, 0, 63, 63);
        p.flat(0);
        due.is("another drawing", p.net(0, 4095), Tell.MISSING);
        p.circuit();
        due.is("its net", p.net(0, 4095), 0);
        due.is("none beside it", p.net(0, 4094), Tell.NONE);
    }

    private static void nameAsked() {
        due.sentence("The i-th NAME of a NET, from 0, in the order of TEXTS; NONE: it has not so many."
            + " MISSING, BEYOND (NET), BELOW: i.");
        RulePlate p = new RulePlate();
        due.is("no drawing", p.name(-1, -1), Tell.MISSING);
        Tell.dot(p, 0, 0, 0, 0);
        Tell.dot(p, 0, 0, 2, 0);
        p.text(0, 0, 2, 5);
        p.text(0, 0, 2, 5);
        p.text(0, 0, 2, 4);
        p.conducts(0, true);
        p.flat(0);
        due.is("no circuit", p.name(0, 0), Tell.MISSING);
        p.circuit();
        for (int net : new int[] {Integer.MIN_VALUE, -1, 2, Integer.MAX_VALUE}) {
            due.is("net " + net, p.name(net, 0), Tell.BEYOND);
            due.is("net " + net + ", i -1", p.name(net, -1), Tell.BEYOND);
        }
        due.is("i -1", p.name(1, -1), Tell.BELOW);
        due.is("i least", p.name(1, Integer.MIN_VALUE), Tell.BELOW);
        due.is("i -1 of one without", p.name(0, -1), Tell.BELOW);
        int[] want = {5, 5, 4, Tell.NONE, Tell.NONE};
        for (int i = 0; i < want.length; i++) {
            due.is("name " + i, p.name(1, i), want[i]);
            due.is("name " + i + " of one without", p.name(0, i), Tell.NONE);
        }
        due.is("i greatest", p.name(1, Integer.MAX_VALUE), Tell.NONE);
    }

    private static void deviceAsked() {
        due.sentence("How many DEVICES (i = NONE), or of DEVICE i: SIZE (what = 0), GATE (1),"
            + " first and second ENDS (2, 3; NONE: there is none). MISSING, BEYOND, NO.");
        RulePlate p = Tell.devices(1, 2);
        due.is("how many", p.device(Tell.NONE, 0), 2);
        int[][] want = {{1, 0, 2, 3}, {2, 1, 4, 5}};
        for (int i = 0; i < 2; i++) {
            for (int what = 0; what < 4; what++) {
                due.is("device(" + i + ", " + what + ")", p.device(i, what), want[i][what]);
            }
            for (int what : new int[] {Integer.MIN_VALUE, -1, 4, Integer.MAX_VALUE}) {
                due.is("device(" + i + ", " + what + ")", p.device(i, what), Tell.NO);
            }
        }
        for (int i : new int[] {Integer.MIN_VALUE, -2, 2, Integer.MAX_VALUE}) {
            due.is("device " + i, p.device(i, 0), Tell.BEYOND);
            due.is("device " + i + ", what 4", p.device(i, 4), Tell.BEYOND);
        }
        p.flat(7);
        due.is("no circuit of this drawing", p.device(0, 9), Tell.MISSING);
        due.is("no circuit of this drawing", p.device(Tell.NONE, 0), Tell.MISSING);
        due.is("no circuit of this drawing", p.device(-2, 0), Tell.MISSING);
    }

    private static void noGates() {
        due.sentence("How many DEVICES (i = NONE)");
        RulePlate p = new RulePlate();
        p.box(0, 0, 0, size(64, 64), false);
        p.conducts(0, true);
        p.flat(0);
        p.circuit();
        due.is("gates are not told", p.device(Tell.NONE, 0), 0);
        due.is("device 0", p.device(0, 0), Tell.BEYOND);
        p.gates(0, 1, 0);
        due.is("told behind the circuit", p.device(Tell.NONE, 0), 0);
        p.circuit();
        due.is("nothing crosses", p.device(Tell.NONE, 0), 0);
        p.gates(0, 0, 0);
        p.circuit();
        due.is("one", p.device(Tell.NONE, 0), 1);
        due.is("as great as can be", p.device(0, 0), 4096);
    }
}
