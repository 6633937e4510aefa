import java.util.ArrayList;
import java.util.List;
import java.util.function.ToIntFunction;

/** Chapter 4 of the document: of several refusals the first, and nothing changed by any; how many calls an object has. */
public final class RefusalSentencesTest {
    private static final Due due = new Due();
    private static final int MIN = Integer.MIN_VALUE;
    private static final int MAX = Integer.MAX_VALUE;
    private static final String FIRST = "REFUSALS, of several the first as each line has them: BEYOND a number beyond,"
        + " MISSING nothing there yet, KIND a SHAPE of another kind, BELOW a count below 0, COPY, NO not as told,"
        + " FULL no room, SPENT.";

    public static void main(String[] args) {
        firstOfShapes();
        firstOfLayers();
        firstOfRules();
        firstOfCircuits();
        firstOfWishes();
        firstOfRows();
        refusedChangesNothing();
        refusedAheadOfAll();
        farNumbers();
        lastCall();
        due.end();
    }

    private static int square(int x, int y) {
        return Tell.square(x, y);
    }

    /** Each reason together with those behind it; cell 1 is full, its shape 0 is a put, 15 is a text. */
    private static void firstOfShapes() {
        due.sentence(FIRST);
        RulePlate p = full();
        due.is("box: cell, size, full", p.box(8, 0, 0, 0, false), Tell.BEYOND);
        due.is("box: layer, size, full", p.box(1, 8, 0, 0, false), Tell.BEYOND);
        due.is("box: square, size, full", p.box(1, 0, 4096, 0, true), Tell.BEYOND);
        due.is("box: size, full", p.box(1, 0, 0, 0, true), Tell.NO);
        due.is("box: full", p.box(1, 0, 0, 101, true), Tell.FULL);
        due.is("path: cell, row, full", p.path(-1, 0, 0, 65, 1), Tell.BEYOND);
        due.is("path: layer, row, full", p.path(1, -1, 0, 65, 0), Tell.BEYOND);
        due.is("path: from, thick, full", p.path(1, 0, -1, 0, 0), Tell.BEYOND);
        due.is("path: to, thick, full", p.path(1, 0, 0, 4096, 10), Tell.BEYOND);
        due.is("path: row, full", p.path(1, 0, 0, 65, 1), Tell.NO);
        due.is("path: thick, full", p.path(1, 0, 0, 1, 0), Tell.NO);
        due.is("path: full", p.path(1, 0, 0, 1, 1), Tell.FULL);
        due.is("text: cell, name, full", p.text(8, 0, 0, 0), Tell.BEYOND);
        due.is("text: layer, name, full", p.text(1, 16, 0, 0), Tell.BEYOND);
        due.is("text: square, name, full", p.text(1, 0, -1, 1000), Tell.BEYOND);
        due.is("text: name, full", p.text(1, 0, 0, 1000), Tell.NO);
        due.is("text: full", p.text(1, 0, 0, 999), Tell.FULL);
        due.is("put: cell, turned, full", p.put(8, 0, 0, 4, false), Tell.BEYOND);
        due.is("put: other, turned, full", p.put(1, 1, 0, 4, false), Tell.BEYOND);
        due.is("put: square, turned, full", p.put(1, 0, 4096, -1, false), Tell.BEYOND);
        due.is("put: turned, full", p.put(1, 0, 0, -1, false), Tell.NO);
        due.is("put: full", p.put(1, 0, 0, 0, false), Tell.FULL);
        due.is("times: cell, across", p.times(8, 0, 0, 0), Tell.BEYOND);
        due.is("times: shape, across", p.times(1, 16, 0, 0), Tell.BEYOND);
        due.is("times: kind, across", p.times(1, 15, 0, 300), Tell.KIND);
        due.is("times: kind, down", p.times(1, 15, 300, 0), Tell.KIND);
        due.is("times: across", p.times(1, 0, 0, 300), Tell.NO);
        due.is("times: down", p.times(1, 0, 300, 0), Tell.NO);
        due.is("undo: cell", p.undo(8), Tell.BEYOND);
        due.is("undo: none", p.undo(7), Tell.MISSING);
        due.is("shape: cell, what", p.shape(8, 0, 3), Tell.BEYOND);
        due.is("shape: shape, what", p.shape(1, 16, 3), Tell.BEYOND);
        due.is("shape: what", p.shape(1, 15, 3), Tell.NO);
    }

    private static void firstOfLayers() {
        due.sentence(FIRST);
        RulePlate p = new RulePlate();
        due.is("made: k, op", p.made(7, 6, 0, 0), Tell.BEYOND);
        due.is("made: k, n", p.made(16, 3, 0, 10), Tell.BEYOND);
        due.is("made: a, op", p.made(8, 6, 8, 0), Tell.BEYOND);
        due.is("made: a, n", p.made(8, 4, 8, 10), Tell.BEYOND);
        due.is("made: b", p.made(8, 5, 0, 8), Tell.BEYOND);
        due.is("made: op; b is not looked at", p.made(8, 6, 0, 8), Tell.NO);
        due.is("made: n", p.made(8, 4, 0, 10), Tell.NO);
        due.is("area: layer, no drawing", p.area(16), Tell.BEYOND);
        due.is("area: no drawing", p.area(0), Tell.MISSING);
        due.is("covered: layer, no drawing", p.covered(16, 0), Tell.BEYOND);
        due.is("covered: square, no drawing", p.covered(0, 4096), Tell.BEYOND);
        due.is("covered: no drawing", p.covered(0, 0), Tell.MISSING);
        due.is("pieces: layer, no drawing", p.pieces(16, 0), Tell.BEYOND);
        due.is("pieces: no drawing, no piece", p.pieces(0, 0), Tell.MISSING);
        p.flat(0);
        due.is("pieces: no piece", p.pieces(0, 0), Tell.BEYOND);
    }

    private static void firstOfRules() {
        due.sentence(FIRST);
        RulePlate p = full();
        due.is("rule: kind, a, n, full", p.rule(5, 16, 0, -1), Tell.NO);
        due.is("rule: a, n, full", p.rule(2, 16, 0, 10), Tell.BEYOND);
        due.is("rule: b, n, full", p.rule(2, 0, 16, 10), Tell.BEYOND);
        due.is("rule: n, full", p.rule(2, 0, 0, 10), Tell.NO);
        due.is("rule: full", p.rule(2, 0, 0, 9), Tell.FULL);
        due.is("fault: beyond, what", p.fault(-1, 4), Tell.BEYOND);
        due.is("fault: what", p.fault(0, 4), Tell.NO);
        due.is("faults: rule, what", p.faults(16, 2), Tell.BEYOND);
        due.is("faults: what", p.faults(15, 2), Tell.NO);
        p.flat(1);
        due.is("fault: no run, beyond, what", p.fault(-1, 4), Tell.MISSING);
        due.is("fault: no run, what", p.fault(0, 4), Tell.MISSING);
        due.is("faults: rule, no run, what", p.faults(16, 2), Tell.BEYOND);
        due.is("faults: no run, what", p.faults(15, 2), Tell.MISSING);
    }

    private static void firstOfCircuits() {
        due.sentence(FIRST);
        RulePlate p = full();
        due.is("joint: a, full", p.joint(16, 0, 0), Tell.BEYOND);
        due.is("joint: full", p.joint(0, 0, 0), Tell.FULL);
        due.is("gates: g, no conductor", p.gates(16, 0, 0), Tell.BEYOND);
        due.is("gates: w, no conductor", p.gates(0, 16, 0), Tell.BEYOND);
        due.is("gates: no conductor", p.gates(0, 0, 0), Tell.NO);
        due.is("net: layer, no conductor", p.net(16, 0), Tell.BEYOND);
        due.is("net: square, no conductor", p.net(0, 4096), Tell.BEYOND);
        due.is("net: no conductor", p.net(0, 0), Tell.NO);
        due.is("name: net, i", p.name(-1, -1), Tell.BEYOND);
        due.is("name: i", p.name(0, -1), Tell.BELOW);
        due.is("device: beyond, what", p.device(-2, 4), Tell.BEYOND);
        due.is("device: what", p.device(0, 4), Tell.NO);
        p.flat(1);
        due.is("net: layer, no circuit, no conductor", p.net(16, 0), Tell.BEYOND);
        due.is("net: square, no circuit, no conductor", p.net(0, 4096), Tell.BEYOND);
        due.is("net: no circuit, no conductor", p.net(0, 0), Tell.MISSING);
        due.is("name: no circuit, net, i", p.name(-1, -1), Tell.MISSING);
        due.is("name: no circuit, i", p.name(0, -1), Tell.MISSING);
        due.is("device: no circuit, beyond, what", p.device(-2, 4), Tell.MISSING);
        due.is("device: no circuit, what", p.device(0, 4), Tell.MISSING);
        RulePlate q = new RulePlate();
        q.conducts(0, true);
        q.gates(0, 0, 0);
        q.conducts(0, false);
        due.is("circuit: no drawing, no conductor", q.circuit(), Tell.MISSING);
        q.flat(0);
        due.is("circuit: no conductor", q.circuit(), Tell.NO);
    }

    private static void firstOfWishes() {
        due.sentence(FIRST);
        RulePlate p = full();
        due.is("wish: nets, full", p.wish(-1, 0), Tell.NO);
        due.is("wish: size, full", p.wish(0, 4097), Tell.NO);
        due.is("wish: full", p.wish(0, 0), Tell.FULL);
        due.is("pair: beyond", p.pair(99, false), Tell.BEYOND);
        p.unwish();
        due.is("pair: none, beyond", p.pair(99, false), Tell.MISSING);
        due.is("pair: none, beyond", p.pair(-1, true), Tell.MISSING);
    }

    private static void firstOfRows() {
        due.sentence(FIRST);
        RulePlate p = new RulePlate();
        due.is("lay: layer, no drawing", p.lay(16, 0), Tell.BEYOND);
        due.is("lay: y, no drawing", p.lay(0, 64), Tell.BEYOND);
        due.is("lay: no drawing", p.lay(0, 0), Tell.MISSING);
        due.is("row: missing, beyond", p.row(64), Tell.MISSING);
        due.is("copy: missing, below, copy", p.copy(-1, 0, -1), Tell.MISSING);
        due.is("copy: missing, copy", p.copy(-1, 0, 1), Tell.MISSING);
        p.flat(0);
        p.lay(0, 0);
        due.is("row: beyond", p.row(64), Tell.BEYOND);
        due.is("copy: below, copy", p.copy(-1, 65, -1), Tell.BELOW);
        due.is("copy: copy", p.copy(-1, 65, 1), Tell.COPY);
    }

    /**
     * Twelve devices with a gate and an end in common, paired with twelve things; cell 1, the rules, the
     * joints and the wish are full, the rules were held, and a row is there.
     */
    private static RulePlate full() {
        RulePlate p = new RulePlate();
        p.path(0, 1, square(0, 0), square(0, 2), 1);
        for (int i = 0; i < 12; i++) {
            p.put(1, 0, square(5 * i, 0), 0, false);
        }
        p.path(1, 2, square(0, 1), square(63, 1), 1);
        p.path(1, 1, square(0, 0), square(63, 0), 1);
        p.box(1, 3, square(9, 9), Tell.size(3, 3), false);
        p.text(1, 2, square(7, 1), 77);
        p.text(2, 2, 0, 1);
        p.made(8, 2, 1, 2);
        p.made(9, 3, 3, 2);
        p.conducts(8, true);
        p.conducts(2, true);
        p.gates(2, 1, 8);
        for (int i = 0; i < 16; i++) {
            p.rule(i % 5, i % 4, 3, 9);
        }
        for (int i = 0; i < 8; i++) {
            p.joint(8, i, 8);
        }
        for (int i = 0; i < 12; i++) {
            p.wish(Tell.nets(23, 22, i), i % 2);
        }
        p.flat(1);
        p.run();
        p.circuit();
        p.same();
        p.lay(1, 2);
        return p;
    }

    /** All that can be asked without a change, and then what comes of what was told. */
    private static List<Integer> seen(RulePlate p) {
        List<Integer> seen = new ArrayList<>();
        for (int layer = 0; layer < 16; layer++) {
            seen.add(p.area(layer));
            seen.add(p.pieces(layer, Tell.NONE));
            seen.add(p.net(layer, square(7, 1)));
            seen.add(p.faults(layer, 0));
            seen.add(p.faults(layer, 1));
        }
        for (int i = 0; i < 16; i++) {
            seen.add(p.fault(37 * i, i % 4));
            seen.add(p.device(i, i % 4));
            seen.add(p.pair(i, i % 3 != 0));
            seen.add(p.row(5 * i % 64));
            seen.add(p.shape(1, i, 2));
            seen.add(p.name(i, i % 2));
        }
        seen.add(p.tries());
        seen.add(p.tear());
        seen.add(p.run());
        seen.add(p.circuit());
        seen.add(p.same());
        seen.add(p.tries());
        for (int cell = 0; cell < 8; cell++) {
            seen.add(p.flat(cell));
            seen.add(p.area(8));
            seen.add(p.area(9));
            seen.add(p.run());
            seen.add(p.circuit());
            seen.add(p.undo(cell));
        }
        for (int layer = 0; layer < 16; layer++) {
            seen.add(p.conducts(layer, true));
        }
        seen.add(p.joint(0, 0, 0));
        seen.add(p.rule(0, 0, 0, 0));
        seen.add(p.unwish());
        return seen;
    }

    private static void refusedChangesNothing() {
        due.sentence("A refused call changes nothing but status().");
        List<Integer> want = seen(full());
        List<ToIntFunction<RulePlate>> calls = refused();
        for (int i = 0; i < calls.size(); i++) {
            RulePlate p = full();
            int before = refusals(p);
            int answer = calls.get(i).applyAsInt(p);
            due.is("call " + i + " is refused: " + answer, answer <= Tell.MISSING && answer >= Tell.SPENT);
            due.is("status() tells of call " + i, refusals(p), before + 1);
            due.is("nothing but that is changed by call " + i, seen(p).equals(want));
        }
        RulePlate p = full();
        for (ToIntFunction<RulePlate> call : calls) {
            call.applyAsInt(p);
        }
        due.is("nothing is changed by all of them", seen(p).equals(want));
    }

    private static int refusals(RulePlate p) {
        int all = 0;
        for (int by = Tell.SPENT; by <= Tell.MISSING; by++) {
            all += p.status(by);
        }
        return all;
    }

    private static List<ToIntFunction<RulePlate>> refused() {
        List<ToIntFunction<RulePlate>> calls = new ArrayList<>();
        calls.add(p -> p.box(8, 0, 0, 101, false));
        calls.add(p -> p.box(2, 8, 0, 101, false));
        calls.add(p -> p.box(2, 0, 4096, 101, false));
        calls.add(p -> p.box(2, 0, 0, 100, false));
        calls.add(p -> p.box(1, 0, 0, 101, false));
        calls.add(p -> p.path(2, 0, 0, 65, 1));
        calls.add(p -> p.path(2, 0, 0, 1, 0));
        calls.add(p -> p.path(2, 0, 0, -1, 1));
        calls.add(p -> p.path(1, 0, 0, 0, 1));
        calls.add(p -> p.text(2, 16, 0, 1));
        calls.add(p -> p.text(2, 0, 0, 0));
        calls.add(p -> p.text(1, 0, 0, 1));
        calls.add(p -> p.put(2, 2, 0, 0, false));
        calls.add(p -> p.put(2, 1, 0, 4, false));
        calls.add(p -> p.put(1, 0, 0, 0, false));
        calls.add(p -> p.times(1, 16, 300, 300));
        calls.add(p -> p.times(1, 15, 300, 300));
        calls.add(p -> p.times(1, 0, 500, 0));
        calls.add(p -> p.times(1, 0, 0, 500));
        calls.add(p -> p.undo(8));
        calls.add(p -> p.undo(7));
        calls.add(p -> p.shape(1, 16, 0));
        calls.add(p -> p.shape(1, 0, 3));
        calls.add(p -> p.made(7, 1, 0, 0));
        calls.add(p -> p.made(8, 1, 8, 0));
        calls.add(p -> p.made(8, 1, 0, 8));
        calls.add(p -> p.made(8, 6, 0, 0));
        calls.add(p -> p.made(9, 3, 0, 10));
        calls.add(p -> p.flat(8));
        calls.add(p -> p.flat(-1));
        calls.add(p -> p.area(16));
        calls.add(p -> p.covered(0, 4096));
        calls.add(p -> p.pieces(1, 99));
        calls.add(p -> p.rule(0, 0, 0, 65));
        calls.add(p -> p.rule(5, 0, 0, 0));
        calls.add(p -> p.rule(0, 16, 0, 0));
        calls.add(p -> p.rule(0, 0, 0, 0));
        calls.add(p -> p.fault(600, 0));
        calls.add(p -> p.fault(0, 4));
        calls.add(p -> p.faults(16, 0));
        calls.add(p -> p.faults(0, 2));
        calls.add(p -> p.conducts(16, true));
        calls.add(p -> p.conducts(-1, true));
        calls.add(p -> p.joint(16, 0, 0));
        calls.add(p -> p.joint(2, 2, 8));
        calls.add(p -> p.gates(0, 0, 0));
        calls.add(p -> p.gates(0, 16, 8));
        calls.add(p -> p.net(0, 0));
        calls.add(p -> p.net(2, -1));
        calls.add(p -> p.name(99, 0));
        calls.add(p -> p.name(0, -1));
        calls.add(p -> p.device(12, 0));
        calls.add(p -> p.device(0, 4));
        calls.add(p -> p.wish(0, 4097));
        calls.add(p -> p.wish(0, 0));
        calls.add(p -> p.pair(12, false));
        calls.add(p -> p.pair(14, true));
        calls.add(p -> p.lay(0, 64));
        calls.add(p -> p.lay(16, 0));
        calls.add(p -> p.row(64));
        calls.add(p -> p.copy(0, 1, 64));
        calls.add(p -> p.copy(0, 0, -1));
        calls.add(p -> p.status(0));
        calls.add(p -> p.status(-10));
        return calls;
    }

    /** The same calls with nothing there yet: they are refused, too, or told of nothing. */
    private static void refusedAheadOfAll() {
        due.sentence("A refused call changes nothing but status().");
        List<ToIntFunction<RulePlate>> calls = new ArrayList<>();
        calls.add(RulePlate::run);
        calls.add(RulePlate::circuit);
        calls.add(RulePlate::same);
        calls.add(p -> p.fault(0, 0));
        calls.add(p -> p.faults(0, 0));
        calls.add(p -> p.area(0));
        calls.add(p -> p.covered(0, 0));
        calls.add(p -> p.pieces(0, Tell.NONE));
        calls.add(p -> p.net(0, 0));
        calls.add(p -> p.name(0, 0));
        calls.add(p -> p.device(Tell.NONE, 0));
        calls.add(p -> p.pair(0, true));
        calls.add(p -> p.lay(0, 0));
        calls.add(p -> p.row(0));
        calls.add(p -> p.copy(0, 0, 0));
        calls.add(p -> p.undo(0));
        List<Integer> want = seen(new RulePlate());
        for (int i = 0; i < calls.size(); i++) {
            RulePlate p = new RulePlate();
            int answer = calls.get(i).applyAsInt(p);
            due.is("call " + i, answer, i == 4 ? Tell.BEYOND : Tell.MISSING);
            due.is("status() tells of call " + i, p.status(answer), 1);
            due.is("nothing but that is changed by call " + i, seen(p).equals(want));
        }
    }

    /** Numbers far beyond, at every place of every call, on a new object and on a full one. */
    private static void farNumbers() {
        due.sentence("BEYOND a number beyond");
        int[] numbers = {MIN, MIN + 1, -4096, -65, -64, -10, -9, -3, -2, -1, 0, 1, 2, 3, 7, 8, 9, 15, 16, 63, 64, 65, 101,
            300, 600, 999, 1000, 4095, 4096, 4097, 6464, 13823, 13824, MAX - 1, MAX};
        int at = 1;
        for (int round = 0; round < 600; round++) {
            RulePlate p = round % 2 == 0 ? new RulePlate() : full();
            int before = refusals(p);
            int refused = 0;
            for (int i = 0; i < 400; i++) {
                int[] told = new int[5];
                for (int k = 0; k < 5; k++) {
                    at = at * 1103515245 + 12345;
                    told[k] = numbers[(at >>> 8) % numbers.length];
                }
                at = at * 1103515245 + 12345;
                int answer = call(p, (at >>> 8) % 33, told);
                refused += answer <= Tell.MISSING ? 1 : 0;
                due.is("an answer", answer >= Tell.SPENT);
            }
            due.is("status() tells of all that were refused", refusals(p), before + refused);
        }
    }

    private static int call(RulePlate p, int which, int... n) {
        switch (which) {
            case 0: return p.box(n[0], n[1], n[2], n[3], n[4] > 0);
            case 1: return p.path(n[0], n[1], n[2], n[3], n[4]);
            case 2: return p.text(n[0], n[1], n[2], n[3]);
            case 3: return p.put(n[0], n[1], n[2], n[3], n[4] > 0);
            case 4: return p.times(n[0], n[1], n[2], n[3]);
            case 5: return p.undo(n[0]);
            case 6: return p.shape(n[0], n[1], n[2]);
            case 7: return p.made(n[0], n[1], n[2], n[3]);
            case 8: return p.flat(n[0]);
            case 9: return p.area(n[0]);
            case 10: return p.covered(n[0], n[1]);
            case 11: return p.pieces(n[0], n[1]);
            case 12: return p.rule(n[0], n[1], n[2], n[3]);
            case 13: return p.run();
            case 14: return p.fault(n[0], n[1]);
            case 15: return p.faults(n[0], n[1]);
            case 16: return p.conducts(n[0], n[1] > 0);
            case 17: return p.joint(n[0], n[1], n[2]);
            case 18: return p.gates(n[0], n[1], n[2]);
            case 19: return p.circuit();
            case 20: return p.net(n[0], n[1]);
            case 21: return p.name(n[0], n[1]);
            case 22: return p.device(n[0], n[1]);
            case 23: return p.wish(n[0], n[1]);
            case 24: return p.unwish();
            case 25: return p.same();
            case 26: return p.tries();
            case 27: return p.pair(n[0], n[1] > 0);
            case 28: return p.lay(n[0], n[1]);
            case 29: return p.tear();
            case 30: return p.row(n[0]);
            case 31: return p.copy(n[0], n[1], n[2]);
            default: return 0;
        }
    }

    private static void lastCall() {
        due.sentence("An object is used for at most 512 calls after it has been made; what later calls answer is free.");
        RulePlate p = new RulePlate();
        for (int i = 0; i < 510; i++) {
            due.is("refused " + i, p.area(16), Tell.BEYOND);
        }
        due.is("the 511th", p.box(0, 0, 0, 101, false), 0);
        due.is("the 512th", p.status(Tell.BEYOND), 510);
        RulePlate q = new RulePlate();
        for (int i = 0; i < 508; i++) {
            q.text(0, 0, 0, 1);
        }
        q.undo(0);
        due.is("the 510th", q.box(0, 0, 0, 6464, false), 15);
        due.is("the 511th", q.flat(0), 4096);
        due.is("the 512th", q.pieces(0, 0), 4096);
        RulePlate r = full();
        for (int i = 0; i < 5000; i++) {
            // free answers, but no end of the program
            call(r, i % 32, i % 9 - 1, i % 17 - 1, i % 65 - 1, i % 101 - 1, i % 3);
        }
    }
}
