import java.util.ArrayDeque;
import java.util.ArrayList;
import java.util.Arrays;
import java.util.List;
import java.util.TreeSet;

/**
 * The document's words once more, square by square and without any cleverness, as a second opinion
 * for PlainCompareTest. It shares no code with RulePlate.
 */
final class PlainPlate {
    private static final int MISSING = -2, BEYOND = -3, BELOW = -4, KIND = -5, COPY = -6, NO = -7, FULL = -8,
            SPENT = -9;

    /** kind, layer or cell, square, then what the kind needs. */
    private final List<List<int[]>> cells = new ArrayList<>();
    private final int[][] recipes = new int[16][];
    private final List<int[]> rules = new ArrayList<>();
    private final boolean[] conductors = new boolean[16];
    private final List<int[]> joints = new ArrayList<>();
    private int[] gates = null;
    private final List<int[]> wish = new ArrayList<>();
    private final int[] refused = new int[10];

    private boolean[][] drawing = null;
    private List<int[]> texts = null;
    private List<int[]> faults = null;
    private int[][] nets = null;
    private int netCount = 0;
    private boolean[] conductorsThen = null;
    private List<int[]> devices = null;
    private int tried = 0;
    private int[] things = null;
    private int[] wishedNets = null;
    private int[] line = null;

    PlainPlate() {
        for (int i = 0; i < 8; i++) {
            cells.add(new ArrayList<>());
        }
    }

    private int no(int by) {
        refused[-by]++;
        return by;
    }

    private static boolean in(int n, int from, int to) {
        return from <= n && n <= to;
    }

    private int add(int cell, int... shape) {
        if (cells.get(cell).size() == 16) {
            return no(FULL);
        }
        cells.get(cell).add(shape);
        return cells.get(cell).size() - 1;
    }

    int box(int cell, int layer, int square, int size, boolean hole) {
        if (!in(cell, 0, 7) || !in(layer, 0, 7) || !in(square, 0, 4095)) {
            return no(BEYOND);
        }
        for (int wide = 1; wide <= 64; wide++) {
            for (int high = 1; high <= 64; high++) {
                if (100 * wide + high == size) {
                    return add(cell, hole ? 1 : 0, layer, square, wide, high);
                }
            }
        }
        return no(NO);
    }

    int path(int cell, int layer, int from, int to, int thick) {
        if (!in(cell, 0, 7) || !in(layer, 0, 7) || !in(from, 0, 4095) || !in(to, 0, 4095)) {
            return no(BEYOND);
        }
        if (from % 64 != to % 64 && from / 64 != to / 64 || !in(thick, 1, 9)) {
            return no(NO);
        }
        return add(cell, 2, layer, from, to, thick);
    }

    int text(int cell, int layer, int square, int name) {
        if (!in(cell, 0, 7) || !in(layer, 0, 15) || !in(square, 0, 4095)) {
            return no(BEYOND);
        }
        return in(name, 1, 999) ? add(cell, 3, layer, square, name) : no(NO);
    }

    int put(int cell, int other, int square, int turned, boolean mirrored) {
        if (!in(cell, 0, 7) || !in(other, 0, cell - 1) || !in(square, 0, 4095)) {
            return no(BEYOND);
        }
        return in(turned, 0, 3) ? add(cell, 4, other, square, turned, mirrored ? 1 : 0, 1, 0, 1, 0) : no(NO);
    }

    private static int[] told(int number) {
        for (int many = 1; many <= 4; many++) {
            for (int far = -63; far <= 63; far++) {
                if (200 * many + far + 100 == number) {
                    return new int[] {many, far};
                }
            }
        }
        return null;
    }

    int times(int cell, int shape, int across, int down) {
        if (!in(cell, 0, 7) || !in(shape, 0, cells.get(cell).size() - 1)) {
            return no(BEYOND);
        }
        int[] s = cells.get(cell).get(shape);
        if (s[0] != 4) {
            return no(KIND);
        }
        int[] a = told(across), d = told(down);
        if (a == null || d == null) {
            return no(NO);
        }
        s[5] = a[0];
        s[6] = a[1];
        s[7] = d[0];
        s[8] = d[1];
        return 1;
    }

    int undo(int cell) {
        if (!in(cell, 0, 7)) {
            return no(BEYOND);
        }
        List<int[]> shapes = cells.get(cell);
        if (shapes.isEmpty()) {
            return no(MISSING);
        }
        shapes.remove(shapes.size() - 1);
        return shapes.size();
    }

    int shape(int cell, int shape, int what) {
        if (!in(cell, 0, 7) || !in(shape, 0, cells.get(cell).size() - 1)) {
            return no(BEYOND);
        }
        return in(what, 0, 2) ? cells.get(cell).get(shape)[what] : no(NO);
    }

    int made(int k, int op, int a, int b) {
        boolean both = op == 0 || op == 1 || op == 2 || op == 5;
        if (!in(k, 8, 15) || !in(a, 0, k - 1) || both && !in(b, 0, k - 1)) {
            return no(BEYOND);
        }
        if (!in(op, 0, 5) || !both && !in(b, 0, 9)) {
            return no(NO);
        }
        recipes[k] = new int[] {op, a, b};
        return 1;
    }

    private static void mark(boolean[] set, int x, int y, boolean is) {
        if (in(x, 0, 63) && in(y, 0, 63)) {
            set[64 * y + x] = is;
        }
    }

    private static void markShape(boolean[] set, int[] s) {
        int x = s[2] % 64, y = s[2] / 64;
        if (s[0] == 2) {
            int x2 = s[3] % 64, y2 = s[3] / 64;
            for (int k = -((s[4] - 1) / 2); k <= s[4] / 2; k++) {
                if (y == y2) {
                    for (int i = Math.min(x, x2); i <= Math.max(x, x2); i++) {
                        mark(set, i, y + k, true);
                    }
                } else {
                    for (int j = Math.min(y, y2); j <= Math.max(y, y2); j++) {
                        mark(set, x + k, j, true);
                    }
                }
            }
        } else {
            for (int j = 0; j < s[4]; j++) {
                for (int i = 0; i < s[3]; i++) {
                    mark(set, x + i, y + j, s[0] == 0);
                }
            }
        }
    }

    /** Where a square comes to by a put, as x, y, which may be beyond the plate. */
    private static int[] place(int[] put, int square, int i, int j) {
        int x = square % 64, y = square / 64;
        if (put[4] == 1) {
            x = -1 - x;
        }
        for (int t = 0; t < put[3]; t++) {
            int before = x;
            x = -1 - y;
            y = before;
        }
        return new int[] {x + put[2] % 64 + i * put[6], y + put[2] / 64 + j * put[8]};
    }

    private boolean[][] flatten(int cell, List<int[]> out) {
        boolean[][] sets = new boolean[8][4096];
        List<int[]> all = new ArrayList<>();
        for (int pass = 0; pass < 2; pass++) {
            for (int[] s : cells.get(cell)) {
                if (pass == 0 && (s[0] == 0 || s[0] == 2) || pass == 1 && s[0] == 1) {
                    markShape(sets[s[1]], s);
                }
            }
        }
        for (int[] s : cells.get(cell)) {
            if (s[0] == 3) {
                all.add(new int[] {s[1], s[2], s[3]});
            }
        }
        for (int[] s : cells.get(cell)) {
            if (s[0] == 4) {
                List<int[]> theirs = new ArrayList<>();
                boolean[][] other = flatten(s[1], theirs);
                for (int j = 0; j < s[7]; j++) {
                    for (int i = 0; i < s[5]; i++) {
                        for (int layer = 0; layer < 8; layer++) {
                            for (int q = 0; q < 4096; q++) {
                                if (other[layer][q]) {
                                    int[] to = place(s, q, i, j);
                                    mark(sets[layer], to[0], to[1], true);
                                }
                            }
                        }
                        for (int[] t : theirs) {
                            int[] to = place(s, t[1], i, j);
                            if (in(to[0], 0, 63) && in(to[1], 0, 63)) {
                                all.add(new int[] {t[0], 64 * to[1] + to[0], t[2]});
                            }
                        }
                    }
                }
            }
        }
        out.addAll(all.subList(0, Math.min(200, all.size())));
        return sets;
    }

    private static List<Integer> beside(int q) {
        List<Integer> all = new ArrayList<>();
        if (q % 64 > 0) {
            all.add(q - 1);
        }
        if (q % 64 < 63) {
            all.add(q + 1);
        }
        if (q >= 64) {
            all.add(q - 64);
        }
        if (q < 4032) {
            all.add(q + 64);
        }
        return all;
    }

    /** Each piece's squares in order. */
    private static List<TreeSet<Integer>> piecesOf(boolean[] set) {
        List<TreeSet<Integer>> all = new ArrayList<>();
        boolean[] seen = new boolean[4096];
        for (int start = 0; start < 4096; start++) {
            if (!set[start] || seen[start]) {
                continue;
            }
            TreeSet<Integer> piece = new TreeSet<>();
            ArrayDeque<Integer> todo = new ArrayDeque<>();
            todo.add(start);
            seen[start] = true;
            while (!todo.isEmpty()) {
                int q = todo.remove();
                piece.add(q);
                for (int next : beside(q)) {
                    if (set[next] && !seen[next]) {
                        seen[next] = true;
                        todo.add(next);
                    }
                }
            }
            all.add(piece);
        }
        return all;
    }

    /** Whether all squares that differ by at most n, those beyond too, are in the set. */
    private static boolean allAround(boolean[] set, int q, int n) {
        for (int y = q / 64 - n; y <= q / 64 + n; y++) {
            for (int x = q % 64 - n; x <= q % 64 + n; x++) {
                if (!in(x, 0, 63) || !in(y, 0, 63) || !set[64 * y + x]) {
                    return false;
                }
            }
        }
        return true;
    }

    private boolean[] make(int[] recipe) {
        boolean[] set = new boolean[4096];
        if (recipe == null) {
            return set;
        }
        boolean[] a = drawing[recipe[1]];
        int op = recipe[0];
        if (op == 5) {
            for (TreeSet<Integer> piece : piecesOf(a)) {
                boolean touched = false;
                for (int q : piece) {
                    touched |= drawing[recipe[2]][q];
                }
                for (int q : piece) {
                    set[q] = touched;
                }
            }
            return set;
        }
        for (int q = 0; q < 4096; q++) {
            if (op == 3 && a[q]) {
                for (int y = -recipe[2]; y <= recipe[2]; y++) {
                    for (int x = -recipe[2]; x <= recipe[2]; x++) {
                        mark(set, q % 64 + x, q / 64 + y, true);
                    }
                }
            } else if (op == 4) {
                set[q] = allAround(a, q, recipe[2]);
            } else if (op < 3) {
                boolean b = drawing[recipe[2]][q];
                set[q] = op == 0 ? a[q] && b : op == 1 ? a[q] || b : a[q] && !b;
            }
        }
        return set;
    }

    int flat(int cell) {
        if (!in(cell, 0, 7)) {
            return no(BEYOND);
        }
        texts = new ArrayList<>();
        boolean[][] drawn = flatten(cell, texts);
        drawing = new boolean[16][];
        int many = 0;
        for (int k = 0; k < 16; k++) {
            drawing[k] = k < 8 ? drawn[k] : make(recipes[k]);
            many += k < 8 ? count(drawing[k]) : 0;
        }
        faults = null;
        nets = null;
        devices = null;
        things = null;
        return many;
    }

    private static int count(boolean[] set) {
        int many = 0;
        for (boolean is : set) {
            many += is ? 1 : 0;
        }
        return many;
    }

    int area(int layer) {
        if (!in(layer, 0, 15)) {
            return no(BEYOND);
        }
        return drawing == null ? no(MISSING) : count(drawing[layer]);
    }

    int covered(int layer, int square) {
        if (!in(layer, 0, 15) || !in(square, 0, 4095)) {
            return no(BEYOND);
        }
        return drawing == null ? no(MISSING) : drawing[layer][square] ? 1 : 0;
    }

    int pieces(int layer, int i) {
        if (!in(layer, 0, 15)) {
            return no(BEYOND);
        }
        if (drawing == null) {
            return no(MISSING);
        }
        List<TreeSet<Integer>> all = piecesOf(drawing[layer]);
        if (i == -1) {
            return all.size();
        }
        return in(i, 0, all.size() - 1) ? all.get(i).size() : no(BEYOND);
    }

    int rule(int kind, int a, int b, int n) {
        if (!in(kind, 0, 4)) {
            return no(NO);
        }
        if (!in(a, 0, 15) || kind == 2 && !in(b, 0, 15)) {
            return no(BEYOND);
        }
        if (!in(n, 0, new int[] {64, 64, 9, 4096, 4096}[kind])) {
            return no(NO);
        }
        if (rules.size() == 16) {
            return no(FULL);
        }
        rules.add(new int[] {kind, a, b, n});
        return rules.size() - 1;
    }

    private void runLines(int r, boolean[] a, int n, boolean gaps) {
        for (int columns = 0; columns < 2; columns++) {
            int step = columns == 0 ? 1 : 64, lineStep = columns == 0 ? 64 : 1;
            for (int l = 0; l < 64; l++) {
                int from = -1;
                for (int k = 0; k <= 64; k++) {
                    boolean mine = k < 64 && a[l * lineStep + k * step] != gaps;
                    if (mine && from < 0) {
                        from = k;
                    } else if (!mine && from >= 0) {
                        boolean between = from > 0 && k < 64;
                        if (k - from < n && (!gaps || between)) {
                            faults.add(new int[] {r, l * lineStep + from * step, l * lineStep + (k - 1) * step,
                                k - from});
                        }
                        from = -1;
                    }
                }
            }
        }
    }

    private void runInside(int r, boolean[] a, boolean[] b, int n) {
        for (int q = 0; q < 4096; q++) {
            if (!a[q] || allAround(b, q, n)) {
                continue;
            }
            int second = q;
            for (int p = 4095; p >= 0; p--) {
                if (!b[p] && Math.abs(p % 64 - q % 64) <= n && Math.abs(p / 64 - q / 64) <= n) {
                    second = p;
                }
            }
            faults.add(new int[] {r, q, second, n});
        }
    }

    int run() {
        if (drawing == null) {
            return no(MISSING);
        }
        faults = new ArrayList<>();
        for (int r = 0; r < rules.size(); r++) {
            int[] rule = rules.get(r);
            boolean[] a = drawing[rule[1]];
            int n = rule[3];
            if (rule[0] < 2) {
                runLines(r, a, n, rule[0] == 1);
            } else if (rule[0] == 2) {
                runInside(r, a, drawing[rule[2]], n);
            } else if (rule[0] == 3) {
                for (TreeSet<Integer> piece : piecesOf(a)) {
                    if (piece.size() < n) {
                        faults.add(new int[] {r, piece.first(), piece.last(), piece.size()});
                    }
                }
            } else {
                for (int f = 0; f < 16; f++) {
                    int share = 0;
                    for (int q = 0; q < 4096; q++) {
                        share += a[q] && q / 1024 == f / 4 && q % 64 / 16 == f % 4 ? 1 : 0;
                    }
                    if (share < n) {
                        int first = f / 4 * 1024 + f % 4 * 16;
                        faults.add(new int[] {r, first, first + 15 * 64 + 15, share});
                    }
                }
            }
        }
        return faults.size();
    }

    int fault(int i, int what) {
        if (faults == null) {
            return no(MISSING);
        }
        if (!in(i, 0, Math.min(600, faults.size()) - 1)) {
            return no(BEYOND);
        }
        return in(what, 0, 3) ? faults.get(i)[what] : no(NO);
    }

    int faults(int rule, int what) {
        if (!in(rule, 0, rules.size() - 1)) {
            return no(BEYOND);
        }
        if (faults == null) {
            return no(MISSING);
        }
        if (!in(what, 0, 1)) {
            return no(NO);
        }
        int many = 0, least = -1;
        for (int[] f : faults) {
            if (f[0] == rule) {
                many++;
                least = least < 0 ? f[3] : Math.min(least, f[3]);
            }
        }
        return what == 0 ? many : least;
    }

    int conducts(int layer, boolean is) {
        if (!in(layer, 0, 15)) {
            return no(BEYOND);
        }
        boolean was = conductors[layer];
        conductors[layer] = is;
        return was ? 1 : 0;
    }

    int joint(int a, int v, int b) {
        if (!in(a, 0, 15) || !in(v, 0, 15) || !in(b, 0, 15)) {
            return no(BEYOND);
        }
        if (joints.size() == 8) {
            return no(FULL);
        }
        joints.add(new int[] {a, v, b});
        return joints.size();
    }

    int gates(int g, int w, int c) {
        if (!in(g, 0, 15) || !in(w, 0, 15) || !in(c, 0, 15)) {
            return no(BEYOND);
        }
        if (!conductors[c]) {
            return no(NO);
        }
        gates = new int[] {g, w, c};
        return 1;
    }

    int circuit() {
        if (drawing == null) {
            return no(MISSING);
        }
        if (gates != null && !conductors[gates[2]]) {
            return no(NO);
        }
        conductorsThen = conductors.clone();
        nets = new int[16][4096];
        for (int[] layer : nets) {
            Arrays.fill(layer, -1);
        }
        netCount = 0;
        for (int layer = 0; layer < 16; layer++) {
            for (int q = 0; q < 4096; q++) {
                if (conductors[layer] && drawing[layer][q] && nets[layer][q] < 0) {
                    flood(layer, q, netCount);
                    netCount++;
                }
            }
        }
        devices = new ArrayList<>();
        things = null;
        if (gates != null) {
            findDevices();
        }
        return netCount;
    }

    private void flood(int layer, int q, int number) {
        ArrayDeque<int[]> todo = new ArrayDeque<>();
        todo.add(new int[] {layer, q});
        while (!todo.isEmpty()) {
            int[] at = todo.remove();
            if (!conductors[at[0]] || !drawing[at[0]][at[1]] || nets[at[0]][at[1]] >= 0) {
                continue;
            }
            nets[at[0]][at[1]] = number;
            for (int next : beside(at[1])) {
                todo.add(new int[] {at[0], next});
            }
            for (int[] joint : joints) {
                if (drawing[joint[1]][at[1]] && joint[0] == at[0]) {
                    todo.add(new int[] {joint[2], at[1]});
                }
                if (drawing[joint[1]][at[1]] && joint[2] == at[0]) {
                    todo.add(new int[] {joint[0], at[1]});
                }
            }
        }
    }

    private void findDevices() {
        boolean[] both = new boolean[4096];
        for (int q = 0; q < 4096; q++) {
            both[q] = drawing[gates[0]][q] && drawing[gates[1]][q];
        }
        for (TreeSet<Integer> piece : piecesOf(both)) {
            TreeSet<Integer> ends = new TreeSet<>();
            for (int q : piece) {
                ends.add(nets[gates[2]][q]);
                for (int next : beside(q)) {
                    ends.add(nets[gates[2]][next]);
                }
            }
            ends.remove(-1);
            int first = ends.isEmpty() ? -1 : ends.pollFirst();
            int second = ends.isEmpty() ? -1 : ends.pollFirst();
            devices.add(new int[] {piece.size(), nets[gates[0]][piece.first()], first, second});
        }
    }

    int net(int layer, int square) {
        if (!in(layer, 0, 15) || !in(square, 0, 4095)) {
            return no(BEYOND);
        }
        if (nets == null) {
            return no(MISSING);
        }
        return conductorsThen[layer] ? nets[layer][square] : no(NO);
    }

    int name(int net, int i) {
        if (nets == null) {
            return no(MISSING);
        }
        if (!in(net, 0, netCount - 1)) {
            return no(BEYOND);
        }
        if (i < 0) {
            return no(BELOW);
        }
        List<Integer> names = new ArrayList<>();
        for (int[] t : texts) {
            if (nets[t[0]][t[1]] == net) {
                names.add(t[2]);
            }
        }
        return i < names.size() ? names.get(i) : -1;
    }

    int device(int i, int what) {
        if (nets == null) {
            return no(MISSING);
        }
        if (i == -1) {
            return devices.size();
        }
        if (!in(i, 0, devices.size() - 1)) {
            return no(BEYOND);
        }
        return in(what, 0, 3) ? devices.get(i)[what] : no(NO);
    }

    int wish(int nets, int size) {
        if (!in(nets, 0, 24 * 24 * 24 - 1) || !in(size, 0, 4096)) {
            return no(NO);
        }
        if (wish.size() == 12) {
            return no(FULL);
        }
        wish.add(new int[] {size, nets / 576, nets / 24 % 24, nets % 24});
        things = null;
        return wish.size() - 1;
    }

    int unwish() {
        int had = wish.size();
        wish.clear();
        things = null;
        return had;
    }

    int same() {
        if (nets == null) {
            return no(MISSING);
        }
        tried = 0;
        things = null;
        boolean whole = devices.size() == wish.size();
        for (int[] d : devices) {
            whole &= d[1] >= 0 && d[2] >= 0 && d[3] >= 0;
        }
        if (!whole) {
            return 0;
        }
        int[] chosen = new int[devices.size()];
        int end = search(0, chosen, new boolean[12], new int[0][]);
        return end == SPENT ? no(SPENT) : end;
    }

    /** The pairs of nets so far are written down one by one, and looked through each time. */
    private int search(int d, int[] chosen, boolean[] taken, int[][] pairs) {
        if (d == devices.size()) {
            things = chosen;
            wishedNets = new int[netCount];
            Arrays.fill(wishedNets, -1);
            for (int[] pair : pairs) {
                wishedNets[pair[0]] = pair[1];
            }
            return 1;
        }
        for (int t = 0; t < wish.size(); t++) {
            for (int way = 0; way < 2 && !taken[t]; way++) {
                if (tried == 5000) {
                    return SPENT;
                }
                tried++;
                int[] device = devices.get(d), thing = wish.get(t);
                int[][] more = Arrays.copyOf(pairs, pairs.length + 3);
                more[pairs.length] = new int[] {device[1], thing[1]};
                more[pairs.length + 1] = new int[] {device[2], thing[2 + way]};
                more[pairs.length + 2] = new int[] {device[3], thing[3 - way]};
                if (thing[0] != 0 && thing[0] != device[0] || !oneWithOne(more)) {
                    continue;
                }
                taken[t] = true;
                chosen[d] = t;
                int end = search(d + 1, chosen, taken, more);
                taken[t] = false;
                if (end != 0) {
                    return end;
                }
            }
        }
        return 0;
    }

    private static boolean oneWithOne(int[][] pairs) {
        for (int[] p : pairs) {
            for (int[] q : pairs) {
                if (p[0] == q[0] != (p[1] == q[1])) {
                    return false;
                }
            }
        }
        return true;
    }

    int tries() {
        return tried;
    }

    int pair(int i, boolean net) {
        if (things == null) {
            return no(MISSING);
        }
        if (!in(i, 0, (net ? netCount : devices.size()) - 1)) {
            return no(BEYOND);
        }
        return net ? wishedNets[i] : things[i];
    }

    int lay(int layer, int y) {
        if (!in(layer, 0, 15) || !in(y, 0, 63)) {
            return no(BEYOND);
        }
        if (drawing == null) {
            return no(MISSING);
        }
        line = new int[64];
        int many = 0;
        for (int x = 0; x < 64; x++) {
            line[x] = drawing[layer][64 * y + x] ? 1 : 0;
            many += line[x];
        }
        return many;
    }

    int tear() {
        int was = line == null ? 0 : 1;
        line = null;
        return was;
    }

    int row(int i) {
        if (line == null) {
            return no(MISSING);
        }
        return in(i, 0, 63) ? line[i] : no(BEYOND);
    }

    int copy(int i, int j, int n) {
        if (line == null) {
            return no(MISSING);
        }
        if (n < 0) {
            return no(BELOW);
        }
        if (i < 0 || j < 0 || (long) i + n > 64 || (long) j + n > 64) {
            return no(COPY);
        }
        int[] was = line.clone();
        for (int k = 0; k < n; k++) {
            line[j + k] = was[i + k];
        }
        return n;
    }

    int status(int by) {
        return in(by, -9, -2) ? refused[-by] : no(NO);
    }
}
