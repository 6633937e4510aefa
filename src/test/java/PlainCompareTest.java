import java.util.ArrayList;
import java.util.List;
import java.util.Random;

/** Long runs of made-up calls, the same each time, answered by RulePlate and by PlainPlate alike. */
public final class PlainCompareTest {
    private static final int RUNS = 500;
    private static final int STYLES = 5;
    private static final int CALLS = 512;
    /** What one step calls at most: nothing is promised of an object behind its last call. */
    private static final int STEP = 80;

    private final Random random;
    private final int style;
    private final RulePlate plate = new RulePlate();
    private final PlainPlate plain = new PlainPlate();
    private final List<String> calls = new ArrayList<>();
    private int wrong = 0;

    private PlainCompareTest(int seed) {
        random = new Random(seed);
        style = seed % STYLES;
    }

    public static void main(String[] args) {
        int wrong = 0;
        for (int seed = 0; seed < RUNS && wrong == 0; seed++) {
            PlainCompareTest run = new PlainCompareTest(seed);
            run.play();
            if (run.wrong != 0) {
                wrong++;
                System.out.println("seed " + seed + ":");
                for (String call : run.calls) {
                    System.out.println("  " + call);
                }
            }
        }
        System.out.println(wrong == 0 ? "both agree" : "they do not agree");
        if (wrong != 0) {
            System.exit(1);
        }
    }

    private void play() {
        if (style == 4) {
            wireMany();
        } else if (style >= 2) {
            wire();
        }
        while (calls.size() + STEP <= CALLS && wrong == 0) {
            int what = random.nextInt(100);
            if (calls.size() < 30 || what < 12) {
                draw();
            } else if (what < 20) {
                tell();
            } else if (what < 28) {
                look();
            } else if (what < 45) {
                askLayers();
            } else if (what < 65) {
                askFaults();
            } else if (what < 90) {
                askCircuit();
            } else {
                askRow();
            }
        }
    }

    /** Wires in rows on layer 1 are crossed by wires in columns on layer 2, so that there are devices. */
    private void wire() {
        int across = 1 + random.nextInt(4);
        int down = 1 + random.nextInt(4);
        for (int i = 0; i < across + down; i++) {
            boolean row = i < across;
            int at = 2 * random.nextInt(10);
            int from = random.nextInt(12);
            int to = from + 1 + random.nextInt(14);
            int first = row ? 64 * at + from : 64 * from + at;
            int last = row ? 64 * at + to : 64 * to + at;
            int layer = row ? 1 : 2;
            int thick = random.nextInt(5) == 0 ? 2 : 1;
            same("path(0, " + layer + ", " + first + ", " + last + ", " + thick + ")",
                plate.path(0, layer, first, last, thick), plain.path(0, layer, first, last, thick));
            int name = 1 + random.nextInt(999);
            int named = row ? 8 : 2;
            same("text(0, " + named + ", " + first + ", " + name + ")",
                plate.text(0, named, first, name), plain.text(0, named, first, name));
        }
        connect(0);
        for (int net = 0; net < 12; net++) {
            same("name(" + net + ", 0)", plate.name(net, 0), plain.name(net, 0));
            same("name(" + net + ", 1)", plate.name(net, 1), plain.name(net, 1));
        }
        wishAsFound();
        wishAsFound();
    }

    /**
     * One crossing with texts on it comes many times, turned and so far apart that its wires are joined
     * or are not; here and there a joint ties a column's wire to a row's.
     */
    private void wireMany() {
        int thick = 1 + random.nextInt(3);
        same("path(0, 1, 128, 132, " + thick + ")", plate.path(0, 1, 128, 132, thick), plain.path(0, 1, 128, 132, thick));
        same("path(0, 2, 2, 258, 1)", plate.path(0, 2, 2, 258, 1), plain.path(0, 2, 2, 258, 1));
        for (int i = 0; i < 6; i++) {
            int square = random.nextBoolean() ? 128 + random.nextInt(5) : 2 + 64 * random.nextInt(5);
            int layer = random.nextBoolean() ? 2 : 8;
            same("text(0, " + layer + ", " + square + ", " + (i + 1) + ")",
                plate.text(0, layer, square, i + 1), plain.text(0, layer, square, i + 1));
        }
        if (random.nextInt(3) == 0) {
            int square = 64 * random.nextInt(5) + 2;
            same("box(0, 3, " + square + ", 101, false)",
                plate.box(0, 3, square, 101, false), plain.box(0, 3, square, 101, false));
            same("made(9, 3, 2, 1)", plate.made(9, 3, 2, 1), plain.made(9, 3, 2, 1));
            same("conducts(9, true)", plate.conducts(9, true), plain.conducts(9, true));
            same("joint(9, 3, 2)", plate.joint(9, 3, 2), plain.joint(9, 3, 2));
            same("joint(8, 9, 9)", plate.joint(8, 9, 9), plain.joint(8, 9, 9));
        }
        int turned = random.nextInt(4);
        boolean mirrored = random.nextBoolean();
        same("put(1, 0, 650, " + turned + ", " + mirrored + ")",
            plate.put(1, 0, 650, turned, mirrored), plain.put(1, 0, 650, turned, mirrored));
        int across = 200 * (1 + random.nextInt(4)) + 100 + 4 + random.nextInt(4);
        int down = 200 * (1 + random.nextInt(4)) + 100 + 4 + random.nextInt(4);
        same("times(1, 0, " + across + ", " + down + ")", plate.times(1, 0, across, down), plain.times(1, 0, across, down));
        int far = 300 + random.nextInt(40);
        same("put(2, 1, 0, 0, false)", plate.put(2, 1, 0, 0, false), plain.put(2, 1, 0, 0, false));
        same("put(2, 1, " + far + ", 1, true)", plate.put(2, 1, far, 1, true), plain.put(2, 1, far, 1, true));
        connect(random.nextInt(4) > 0 ? 1 : 2);
        for (int i = 0; i < 8; i++) {
            int net = random.nextInt(20);
            int number = random.nextInt(4);
            same("name(" + net + ", " + number + ")", plate.name(net, number), plain.name(net, number));
        }
        wishAsFound();
        wishAsFound();
    }

    /** Layer 2 is of gates over layer 1, what is left of that conducts, and one cell is drawn. */
    private void connect(int cell) {
        same("made(8, 2, 1, 2)", plate.made(8, 2, 1, 2), plain.made(8, 2, 1, 2));
        same("conducts(8, true)", plate.conducts(8, true), plain.conducts(8, true));
        same("conducts(2, true)", plate.conducts(2, true), plain.conducts(2, true));
        same("gates(2, 1, 8)", plate.gates(2, 1, 8), plain.gates(2, 1, 8));
        same("flat(" + cell + ")", plate.flat(cell), plain.flat(cell));
        same("circuit()", plate.circuit(), plain.circuit());
    }

    private void same(String call, int got, int want) {
        calls.add(call + " = " + got);
        if (got != want) {
            wrong++;
            calls.add("due was " + want);
        }
    }

    /** Mostly within 0 .. end - 1, now and then just beyond, seldom far beyond. */
    private int upTo(int end) {
        int dice = random.nextInt(150);
        if (dice == 0) {
            return end;
        }
        if (dice == 1) {
            return -1;
        }
        if (dice == 2) {
            return random.nextBoolean() ? Integer.MAX_VALUE : Integer.MIN_VALUE;
        }
        return end <= 0 ? 0 : random.nextInt(end);
    }

    private int layer() {
        if (style >= 2 && random.nextInt(3) == 0) {
            return random.nextBoolean() ? 8 : 2;
        }
        return random.nextInt(10) < 7 ? upTo(4) : upTo(16);
    }

    /** Except in style 1 things are drawn in a corner, so that much meets. */
    private int square() {
        if (style != 1 && random.nextInt(20) > 0) {
            return style == 0 ? 64 * upTo(12) + upTo(12) : 64 * upTo(24) + upTo(24);
        }
        return upTo(4096);
    }

    private int length() {
        return random.nextInt(4) > 0 ? 1 + random.nextInt(9) : upTo(66);
    }

    private void draw() {
        int cell = random.nextInt(3) > 0 ? upTo(3) : upTo(8);
        int layer = random.nextInt(8) > 0 ? upTo(3) : upTo(8);
        int square = square();
        boolean flag = random.nextBoolean();
        switch (random.nextInt(12)) {
            case 0: case 1: case 2: {
                int size = 100 * length() + length();
                boolean hole = random.nextInt(4) == 0;
                same("box(" + cell + ", " + layer + ", " + square + ", " + size + ", " + hole + ")",
                    plate.box(cell, layer, square, size, hole), plain.box(cell, layer, square, size, hole));
                break;
            }
            case 3: case 4: case 5: {
                int to = flag ? square / 64 * 64 + upTo(64) : 64 * upTo(64) + square % 64;
                if (style == 0) {
                    to = flag ? square / 64 * 64 + upTo(14) : 64 * upTo(14) + square % 64;
                }
                to = random.nextInt(40) == 0 ? upTo(4096) : to;
                int thick = random.nextInt(3) > 0 ? 1 : upTo(11);
                same("path(" + cell + ", " + layer + ", " + square + ", " + to + ", " + thick + ")",
                    plate.path(cell, layer, square, to, thick), plain.path(cell, layer, square, to, thick));
                break;
            }
            case 6: {
                int name = upTo(1000);
                int any = layer();
                same("text(" + cell + ", " + any + ", " + square + ", " + name + ")",
                    plate.text(cell, any, square, name), plain.text(cell, any, square, name));
                break;
            }
            case 7: case 8: {
                int other = random.nextInt(5) > 0 ? upTo(cell) : upTo(8);
                int turned = upTo(4);
                same("put(" + cell + ", " + other + ", " + square + ", " + turned + ", " + flag + ")",
                    plate.put(cell, other, square, turned, flag), plain.put(cell, other, square, turned, flag));
                break;
            }
            case 9: {
                int shape = upTo(16);
                int across = told();
                int down = told();
                same("times(" + cell + ", " + shape + ", " + across + ", " + down + ")",
                    plate.times(cell, shape, across, down), plain.times(cell, shape, across, down));
                break;
            }
            case 10:
                same("undo(" + cell + ")", plate.undo(cell), plain.undo(cell));
                break;
            default: {
                int shape = upTo(6);
                int what = upTo(3);
                same("shape(" + cell + ", " + shape + ", " + what + ")",
                    plate.shape(cell, shape, what), plain.shape(cell, shape, what));
                break;
            }
        }
    }

    private int told() {
        return random.nextInt(10) == 0 ? random.nextInt(1400) - 200
            : 200 * (1 + random.nextInt(4)) + random.nextInt(31) - 15 + 100;
    }

    private void tell() {
        int a = layer();
        int b = layer();
        switch (random.nextInt(5)) {
            case 0: case 1: {
                int k = 8 + upTo(8);
                int op = upTo(6);
                int n = random.nextInt(3) == 0 ? upTo(10) : b;
                same("made(" + k + ", " + op + ", " + a + ", " + n + ")",
                    plate.made(k, op, a, n), plain.made(k, op, a, n));
                break;
            }
            case 2: {
                int kind = upTo(5);
                int n = random.nextInt(3) == 0 ? upTo(4097) : upTo(10);
                same("rule(" + kind + ", " + a + ", " + b + ", " + n + ")",
                    plate.rule(kind, a, b, n), plain.rule(kind, a, b, n));
                break;
            }
            case 3: {
                boolean is = random.nextInt(4) > 0;
                same("conducts(" + a + ", " + is + ")", plate.conducts(a, is), plain.conducts(a, is));
                break;
            }
            default: {
                int v = layer();
                if (random.nextInt(3) == 0) {
                    same("joint(" + a + ", " + v + ", " + b + ")", plate.joint(a, v, b), plain.joint(a, v, b));
                } else {
                    same("gates(" + a + ", " + v + ", " + b + ")", plate.gates(a, v, b), plain.gates(a, v, b));
                }
                break;
            }
        }
    }

    private void look() {
        switch (random.nextInt(4)) {
            case 0: {
                int cell = random.nextInt(3) > 0 ? upTo(4) : upTo(8);
                same("flat(" + cell + ")", plate.flat(cell), plain.flat(cell));
                if (random.nextInt(4) > 0) {
                    same("run()", plate.run(), plain.run());
                    same("circuit()", plate.circuit(), plain.circuit());
                }
                break;
            }
            case 1:
                same("run()", plate.run(), plain.run());
                break;
            case 2:
                same("circuit()", plate.circuit(), plain.circuit());
                break;
            default:
                wishAsFound();
                break;
        }
    }

    /** What was found is wished, with other nets and mostly in another order, so that it can be paired. */
    private void wishAsFound() {
        same("unwish()", plate.unwish(), plain.unwish());
        int many = plain.device(-1, 0);
        same("device(-1, 0)", plate.device(-1, 0), many);
        int by = random.nextInt(24);
        int start = many > 0 ? random.nextInt(many) : 0;
        for (int i = 0; i < Math.min(many, 13); i++) {
            int device = (start + i) % many;
            int[] nets = new int[3];
            for (int k = 0; k < 3; k++) {
                int net = plain.device(device, 1 + k);
                same("device(" + device + ", " + (1 + k) + ")", plate.device(device, 1 + k), net);
                nets[k] = Math.floorMod(net + by, 24);
            }
            boolean swap = random.nextBoolean();
            int told = 576 * nets[0] + 24 * nets[swap ? 2 : 1] + nets[swap ? 1 : 2];
            int size = random.nextInt(12) == 0 ? upTo(4097) : random.nextBoolean() ? 0 : plain.device(device, 0);
            same("device(" + device + ", 0)", plate.device(device, 0), plain.device(device, 0));
            same("wish(" + told + ", " + size + ")", plate.wish(told, size), plain.wish(told, size));
        }
        same("same()", plate.same(), plain.same());
        same("tries()", plate.tries(), plain.tries());
        for (int k = 0; k < 6; k++) {
            int i = random.nextInt(Math.max(6, 2 * many));
            boolean net = random.nextBoolean();
            same("pair(" + i + ", " + net + ")", plate.pair(i, net), plain.pair(i, net));
        }
    }

    private void askLayers() {
        int layer = layer();
        int square = square();
        int i = random.nextInt(3) == 0 ? -1 : upTo(12);
        switch (random.nextInt(3)) {
            case 0:
                same("area(" + layer + ")", plate.area(layer), plain.area(layer));
                break;
            case 1:
                same("covered(" + layer + ", " + square + ")",
                    plate.covered(layer, square), plain.covered(layer, square));
                break;
            default:
                same("pieces(" + layer + ", " + i + ")", plate.pieces(layer, i), plain.pieces(layer, i));
                break;
        }
    }

    private void askFaults() {
        int i = random.nextBoolean() ? upTo(20) : upTo(620);
        int what = upTo(4);
        if (random.nextInt(3) > 0) {
            same("fault(" + i + ", " + what + ")", plate.fault(i, what), plain.fault(i, what));
        } else {
            int rule = upTo(8);
            what = upTo(2);
            same("faults(" + rule + ", " + what + ")", plate.faults(rule, what), plain.faults(rule, what));
        }
    }

    private void askCircuit() {
        int i = random.nextInt(4) == 0 ? -1 : upTo(8);
        int what = upTo(4);
        int layer = layer();
        int square = square();
        boolean net = random.nextBoolean();
        switch (random.nextInt(8)) {
            case 0: case 1:
                same("net(" + layer + ", " + square + ")", plate.net(layer, square), plain.net(layer, square));
                break;
            case 2: {
                int number = upTo(3);
                same("name(" + i + ", " + number + ")", plate.name(i, number), plain.name(i, number));
                break;
            }
            case 3: case 4:
                same("device(" + i + ", " + what + ")", plate.device(i, what), plain.device(i, what));
                break;
            case 5: {
                int told = upTo(13824);
                int size = random.nextBoolean() ? 0 : upTo(4097);
                same("wish(" + told + ", " + size + ")", plate.wish(told, size), plain.wish(told, size));
                break;
            }
            case 6:
                same("same()", plate.same(), plain.same());
                same("tries()", plate.tries(), plain.tries());
                break;
            default:
                same("pair(" + i + ", " + net + ")", plate.pair(i, net), plain.pair(i, net));
                break;
        }
    }

    private void askRow() {
        int i = upTo(64);
        int j = upTo(64);
        int n = random.nextInt(4) == 0 ? upTo(66) : upTo(20);
        int layer = layer();
        switch (random.nextInt(10)) {
            case 0:
                same("tear()", plate.tear(), plain.tear());
                break;
            case 1: case 2:
                same("lay(" + layer + ", " + i + ")", plate.lay(layer, i), plain.lay(layer, i));
                break;
            case 3: case 4:
                same("copy(" + i + ", " + j + ", " + n + ")", plate.copy(i, j, n), plain.copy(i, j, n));
                break;
            case 5: {
                int by = -1 - upTo(10);
                same("status(" + by + ")", plate.status(by), plain.status(by));
                break;
            }
            default:
                same("row(" + i + ")", plate.row(i), plain.row(i));
                break;
        }
    }
}
