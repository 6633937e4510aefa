/** Promises 18 to 24: nets, names and devices. */
public final class CircuitTest {
    private static final Due due = new Due();

    public static void main(String[] args) {
        conducts();
        joints();
        gatesTold();
        circuits();
        joined();
        nets();
        names();
        namesByPuts();
        namesTurned();
        devices();
        ends();
        due.end();
    }

    private static int square(int x, int y) {
        return 64 * y + x;
    }

    private static void conducts() {
        due.promise(18);
        RulePlate p = new RulePlate();
        for (int layer = 0; layer < 16; layer += 5) {
            due.is("was not", p.conducts(layer, true), 0);
            due.is("was", p.conducts(layer, true), 1);
            due.is("was", p.conducts(layer, false), 1);
            due.is("was not", p.conducts(layer, false), 0);
        }
        due.is("16", p.conducts(16, true), RulePlate.BEYOND);
        due.is("-1", p.conducts(-1, true), RulePlate.BEYOND);
        due.is("others are not touched", p.conducts(7, false), 0);
    }

    private static void joints() {
        due.promise(19);
        RulePlate p = new RulePlate();
        due.is("a", p.joint(16, 0, 0), RulePlate.BEYOND);
        due.is("v", p.joint(0, -1, 0), RulePlate.BEYOND);
        due.is("b", p.joint(0, 0, 16), RulePlate.BEYOND);
        for (int i = 1; i <= 8; i++) {
            due.is("joint " + i, p.joint(15, i, 0), i);
        }
        due.is("full", p.joint(0, 1, 2), RulePlate.FULL);
        due.is("full, beyond", p.joint(0, 16, 2), RulePlate.BEYOND);
        p.box(0, 0, 0, 101, false);
        p.box(0, 7, 0, 101, false);
        p.made(8, 0, 0, 7);
        p.made(15, 1, 0, 0);
        p.conducts(0, true);
        p.conducts(15, true);
        p.flat(0);
        due.is("the last ones hold", p.circuit(), 1);
    }

    private static void gatesTold() {
        due.promise(20);
        RulePlate p = new RulePlate();
        due.is("c does not conduct", p.gates(0, 1, 2), RulePlate.NO);
        due.is("g", p.gates(16, 1, 2), RulePlate.BEYOND);
        due.is("w", p.gates(0, -1, 2), RulePlate.BEYOND);
        due.is("c", p.gates(0, 1, 16), RulePlate.BEYOND);
        p.conducts(2, true);
        due.is("gates", p.gates(0, 1, 2), 1);
        p.conducts(3, true);
        due.is("anew", p.gates(4, 5, 3), 1);
        p.conducts(2, false);
        p.flat(0);
        due.is("the first are no more", p.circuit(), 0);
        p.box(0, 4, 0, 101, false);
        p.box(0, 5, 0, 101, false);
        p.flat(0);
        p.circuit();
        due.is("the latest count", p.device(-1, 0), 1);
    }

    private static void circuits() {
        due.promise(21);
        RulePlate p = new RulePlate();
        due.is("missing", p.circuit(), RulePlate.MISSING);
        p.conducts(1, true);
        p.gates(0, 0, 1);
        p.conducts(1, false);
        due.is("missing, ahead of no", p.circuit(), RulePlate.MISSING);
        p.box(0, 0, 0, 101, false);
        p.box(0, 1, 5, 101, false);
        p.flat(0);
        due.is("no", p.circuit(), RulePlate.NO);
        due.is("none was found", p.net(1, 0), RulePlate.MISSING);
        p.conducts(1, true);
        due.is("circuit", p.circuit(), 1);
        p.conducts(0, true);
        due.is("conductors as told then", p.net(0, 0), RulePlate.NO);
        p.conducts(1, false);
        due.is("conductors as told then", p.net(1, 5), 0);
        due.is("refused", p.circuit(), RulePlate.NO);
        due.is("a refused one changes nothing", p.net(1, 5), 0);
        p.conducts(1, true);
        due.is("anew", p.circuit(), 2);
        due.is("by layers", p.net(0, 0), 0);
        due.is("by layers", p.net(1, 5), 1);
    }

    private static void joined() {
        due.promise(21);
        RulePlate p = new RulePlate();
        p.path(0, 0, square(0, 0), square(9, 0), 1);
        p.path(0, 0, square(0, 2), square(9, 2), 1);
        p.path(0, 1, square(5, 0), square(5, 9), 1);
        p.path(0, 1, square(7, 0), square(7, 9), 1);
        p.path(0, 2, square(5, 0), square(5, 2), 1);
        p.box(0, 3, square(0, 9), 6401, false);
        p.conducts(0, true);
        p.conducts(1, true);
        p.flat(0);
        due.is("apart", p.circuit(), 4);
        p.joint(1, 2, 0);
        due.is("joined at two squares", p.circuit(), 2);
        due.is("by the least place", p.net(0, square(9, 2)), 0);
        due.is("by the least place", p.net(1, square(5, 9)), 0);
        due.is("not joined", p.net(1, square(7, 0)), 1);
        p.joint(1, 1, 3);
        due.is("3 does not conduct", p.circuit(), 2);
        p.conducts(3, true);
        due.is("joined by its own squares", p.circuit(), 1);
        p.conducts(1, false);
        due.is("1 conducts no more", p.circuit(), 3);
    }

    private static void nets() {
        due.promise(22);
        RulePlate p = new RulePlate();
        due.is("layer", p.net(16, 0), RulePlate.BEYOND);
        due.is("layer", p.net(-1, 0), RulePlate.BEYOND);
        due.is("square", p.net(0, 4096), RulePlate.BEYOND);
        due.is("square", p.net(0, -1), RulePlate.BEYOND);
        due.is("missing", p.net(0, 0), RulePlate.MISSING);
        p.box(0, 0, square(63, 0), 101, false);
        p.box(0, 0, square(0, 1), 101, false);
        p.box(0, 0, square(62, 1), 101, false);
        p.conducts(0, true);
        p.flat(0);
        due.is("missing", p.net(0, 0), RulePlate.MISSING);
        due.is("circuit", p.circuit(), 3);
        due.is("none", p.net(0, 0), RulePlate.NONE);
        due.is("first", p.net(0, 63), 0);
        due.is("rows do not go on", p.net(0, 64), 1);
        due.is("corners do not join", p.net(0, square(62, 1)), 2);
        due.is("no conductor", p.net(1, 0), RulePlate.NO);
    }

    private static void names() {
        due.promise(23);
        RulePlate p = new RulePlate();
        due.is("missing", p.name(-1, -1), RulePlate.MISSING);
        p.box(0, 0, 0, 501, false);
        p.box(0, 1, 0, 501, false);
        p.text(0, 0, 3, 9);
        p.text(0, 1, 3, 8);
        p.text(0, 0, 5, 7);
        p.text(0, 0, 0, 6);
        p.text(0, 0, 1, 9);
        p.text(0, 8, 1, 5);
        p.made(8, 1, 0, 1);
        p.conducts(0, true);
        p.flat(0);
        p.circuit();
        due.is("in the order of texts", p.name(0, 0), 9);
        due.is("in the order of texts", p.name(0, 1), 6);
        due.is("twice", p.name(0, 2), 9);
        due.is("no more", p.name(0, 3), RulePlate.NONE);
        due.is("no more", p.name(0, Integer.MAX_VALUE), RulePlate.NONE);
        due.is("below", p.name(0, -1), RulePlate.BELOW);
        due.is("beyond", p.name(1, -1), RulePlate.BEYOND);
        due.is("beyond", p.name(-1, 0), RulePlate.BEYOND);
        p.conducts(8, true);
        p.text(0, 0, 2, 4);
        p.circuit();
        due.is("of a made layer", p.name(1, 0), 5);
        due.is("the drawing's texts are as they were", p.name(0, 3), RulePlate.NONE);
    }

    private static void namesByPuts() {
        due.promise(23);
        RulePlate p = new RulePlate();
        p.box(0, 0, 0, 6464, false);
        p.text(0, 0, square(1, 0), 1);
        p.text(0, 0, square(2, 0), 2);
        p.put(1, 0, square(0, 0), 0, false);
        p.text(1, 0, 0, 3);
        p.put(1, 0, square(2, 0), 0, true);
        p.times(1, 0, 200 * 2 + 62 + 100, 200 * 2 + 1 + 100);
        p.conducts(0, true);
        p.flat(1);
        p.circuit();
        // its own; then of the first put, row by row, of the second copy only the first is on the plate
        int[] want = {3, 1, 2, 1, 1, 2, 1, 1, RulePlate.NONE};
        for (int i = 0; i < want.length; i++) {
            due.is("name(0, " + i + ")", p.name(0, i), want[i]);
        }
        p.undo(1);
        p.undo(1);
        p.undo(1);
        // 15 texts in all: 1, 2, 12 .. 24
        for (int i = 2; i < 15; i++) {
            p.text(0, 0, i, 10 + i);
        }
        p.put(1, 0, 0, 0, false);
        p.times(1, 0, 900, 900);
        p.put(2, 1, 0, 0, false);
        p.text(2, 0, 0, 500);
        p.flat(1);
        p.circuit();
        due.is("the last of 200", p.name(0, 199), 14);
        due.is("no more than 200", p.name(0, 200), RulePlate.NONE);
        p.flat(2);
        p.circuit();
        due.is("its own is the first", p.name(0, 0), 500);
        due.is("the last of 200", p.name(0, 199), 13);
        due.is("no more than 200", p.name(0, 200), RulePlate.NONE);
    }

    /** Each text names the square that its own square comes to. */
    private static void namesTurned() {
        due.promise(23);
        for (int turned = 0; turned < 8; turned++) {
            RulePlate p = new RulePlate();
            p.text(0, 0, square(2, 1), 40);
            p.text(0, 0, square(5, 9), 41);
            p.path(0, 0, square(2, 1), square(2, 1), 1);
            p.path(0, 0, square(5, 9), square(5, 9), 1);
            p.put(1, 0, square(30, 30), turned % 4, turned >= 4);
            p.conducts(0, true);
            p.flat(1);
            due.is("turned " + turned, p.circuit(), 2);
            int first = p.name(0, 0);
            due.is("turned " + turned, first == 40 || first == 41);
            due.is("turned " + turned, p.name(1, 0), 81 - first);
            due.is("turned " + turned, p.name(0, 1), RulePlate.NONE);
        }
    }

    private static void devices() {
        due.promise(24);
        RulePlate p = new RulePlate();
        due.is("missing", p.device(-2, 9), RulePlate.MISSING);
        p.path(0, 0, square(10, 0), square(10, 20), 2);
        p.path(0, 1, square(0, 10), square(30, 10), 3);
        p.path(0, 0, square(20, 5), square(20, 20), 1);
        p.made(8, 2, 1, 0);
        p.conducts(8, true);
        p.flat(0);
        p.circuit();
        due.is("no gates", p.device(-1, 0), 0);
        p.gates(0, 1, 8);
        p.circuit();
        due.is("how many", p.device(-1, 9), 2);
        due.is("size", p.device(0, 0), 6);
        due.is("g does not conduct", p.device(0, 1), RulePlate.NONE);
        due.is("end", p.device(0, 2), 0);
        due.is("other end", p.device(0, 3), 1);
        due.is("size", p.device(1, 0), 3);
        due.is("end", p.device(1, 2), 1);
        due.is("other end", p.device(1, 3), 2);
        p.conducts(0, true);
        p.circuit();
        due.is("gate", p.device(0, 1), 0);
        due.is("gate", p.device(1, 1), 1);
        due.is("end", p.device(1, 2), 3);
        due.is("what 4", p.device(0, 4), RulePlate.NO);
        due.is("what -1", p.device(0, -1), RulePlate.NO);
        due.is("device 2", p.device(2, 9), RulePlate.BEYOND);
        due.is("device -2", p.device(-2, 0), RulePlate.BEYOND);
        p.gates(0, 2, 8);
        due.is("gates as told then", p.device(-1, 0), 2);
    }

    private static void ends() {
        due.promise(24);
        RulePlate p = new RulePlate();
        // a device in the corner with an end below alone
        p.box(0, 0, 0, 202, false);
        p.box(0, 2, square(0, 2), 101, false);
        // and one in the first row with an end on the right alone
        p.box(0, 0, 40, 101, false);
        p.box(0, 2, 41, 101, false);
        // one with four ends, of which the two above and on the left are the least
        p.box(0, 0, square(20, 20), 101, false);
        p.box(0, 2, square(20, 21), 101, false);
        p.box(0, 2, square(21, 20), 101, false);
        p.box(0, 2, square(19, 20), 101, false);
        p.box(0, 2, square(20, 19), 101, false);
        // one with one at a corner, and one on its own squares
        p.box(0, 0, square(62, 40), 201, false);
        p.box(0, 2, square(61, 39), 101, false);
        p.box(0, 2, square(63, 40), 101, false);
        p.conducts(2, true);
        p.gates(0, 0, 2);
        p.flat(0);
        due.is("circuit", p.circuit(), 8);
        due.is("devices", p.device(-1, 0), 4);
        due.is("below", p.device(0, 2), 1);
        due.is("no other end", p.device(0, 3), RulePlate.NONE);
        due.is("right", p.device(1, 2), 0);
        due.is("no other end", p.device(1, 3), RulePlate.NONE);
        due.is("above", p.device(2, 2), 2);
        due.is("left", p.device(2, 3), 3);
        due.is("its own square", p.device(3, 2), 7);
        due.is("not the corner", p.device(3, 3), RulePlate.NONE);
    }
}
