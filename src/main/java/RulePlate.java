import java.util.Arrays;

/**
 * A judge of drawn plates: cells are laid flat, layers are made of layers, rules are held against
 * them, and the circuit that comes is paired with a wished one.
 */
public final class RulePlate {
    public static final int NONE = -1;
    public static final int MISSING = -2;
    public static final int BEYOND = -3;
    public static final int BELOW = -4;
    public static final int KIND = -5;
    public static final int COPY = -6;
    public static final int NO = -7;
    public static final int FULL = -8;
    public static final int SPENT = -9;

    private static final int SIDE = 64;
    private static final int SQUARES = SIDE * SIDE;
    private static final int LAYERS = 16;
    private static final int DRAWN = 8;
    private static final int CELLS = 8;
    private static final int SHAPES = 16;
    private static final int TEXTS = 200;
    private static final int NAMES = 999;
    private static final int FARTHEST = 63;
    private static final int REACH = 9;

    private static final int KIND_BOX = 0;
    private static final int KIND_HOLE = 1;
    private static final int KIND_PATH = 2;
    private static final int KIND_TEXT = 3;
    private static final int KIND_PUT = 4;

    private static final int OP_AND = 0;
    private static final int OP_OR = 1;
    private static final int OP_LESS = 2;
    private static final int OP_GROWN = 3;
    private static final int OP_SHRUNK = 4;
    private static final int OP_TOUCHED = 5;

    private static final int RULE_WIDE = 0;
    private static final int RULE_APART = 1;
    private static final int RULE_INSIDE = 2;
    private static final int RULE_AREA = 3;
    private static final int RULE_SHARE = 4;

    private final Cell[] cells = new Cell[CELLS];
    private final Drawing drawing = new Drawing();
    private final RuleBook book = new RuleBook();
    private final Circuit wiring = new Circuit();
    private final Wish wanted = new Wish();
    private final int[] refusals = new int[8];
    private final long[] scratch = new long[SIDE];
    private long line = 0;
    private boolean lineThere = false;

    public RulePlate() {
        for (int i = 0; i < CELLS; i++) {
            cells[i] = new Cell();
        }
    }

    // ---- shapes

    public int box(int cell, int layer, int square, int size, boolean hole) {
        if (outside(cell, CELLS) || outside(layer, DRAWN) || outside(square, SQUARES)) {
            return refuse(BEYOND);
        }
        int wide = size / 100;
        int high = size % 100;
        if (wide < 1 || wide > SIDE || high < 1 || high > SIDE) {
            return refuse(NO);
        }
        if (cells[cell].count >= SHAPES) {
            return refuse(FULL);
        }
        Patch patch = new Patch(hole ? KIND_HOLE : KIND_BOX, layer, square);
        int x = square % SIDE;
        int y = square / SIDE;
        patch.reach(x, y, x + wide - 1, y + high - 1);
        return drawn(cell, patch);
    }

    public int path(int cell, int layer, int from, int to, int thick) {
        if (outside(cell, CELLS) || outside(layer, DRAWN)
                || outside(from, SQUARES) || outside(to, SQUARES)) {
            return refuse(BEYOND);
        }
        boolean flatWise = from / SIDE == to / SIDE;
        boolean upright = from % SIDE == to % SIDE;
        if (!flatWise && !upright || thick < 1 || thick > REACH) {
            return refuse(NO);
        }
        if (cells[cell].count >= SHAPES) {
            return refuse(FULL);
        }
        int before = (thick - 1) / 2;
        int behind = thick / 2;
        int first = Math.min(from, to);
        int last = Math.max(from, to);
        int x = first % SIDE;
        int y = first / SIDE;
        Patch patch = new Patch(KIND_PATH, layer, from);
        if (flatWise) {
            patch.reach(x, y - before, last % SIDE, y + behind);
        } else {
            patch.reach(x - before, y, x + behind, last / SIDE);
        }
        return drawn(cell, patch);
    }

    public int text(int cell, int layer, int square, int name) {
        if (outside(cell, CELLS) || outside(layer, LAYERS) || outside(square, SQUARES)) {
            return refuse(BEYOND);
        }
        if (name < 1 || name > NAMES) {
            return refuse(NO);
        }
        if (cells[cell].count >= SHAPES) {
            return refuse(FULL);
        }
        return drawn(cell, new Label(layer, square, name));
    }

    public int put(int cell, int other, int square, int turned, boolean mirrored) {
        if (outside(cell, CELLS) || outside(other, cell) || outside(square, SQUARES)) {
            return refuse(BEYOND);
        }
        if (turned < 0 || turned > 3) {
            return refuse(NO);
        }
        if (cells[cell].count >= SHAPES) {
            return refuse(FULL);
        }
        return drawn(cell, new Put(other, square, turned, mirrored));
    }

    public int times(int cell, int shape, int across, int down) {
        if (outside(cell, CELLS) || outside(shape, cells[cell].count)) {
            return refuse(BEYOND);
        }
        if (cells[cell].shapes[shape] instanceof Put placed) {
            if (!Put.canBeTold(across) || !Put.canBeTold(down)) {
                return refuse(NO);
            }
            placed.repeat(across, down);
            outdate(cell);
            return 1;
        }
        return refuse(KIND);
    }

    public int undo(int cell) {
        if (outside(cell, CELLS)) {
            return refuse(BEYOND);
        }
        if (cells[cell].count <= 0) {
            return refuse(MISSING);
        }
        cells[cell].count--;
        outdate(cell);
        return cells[cell].count;
    }

    public int shape(int cell, int shape, int what) {
        if (outside(cell, CELLS) || outside(shape, cells[cell].count)) {
            return refuse(BEYOND);
        }
        Shape told = cells[cell].shapes[shape];
        if (told == null || outside(what, 3)) {
            return refuse(NO);
        }
        return what == 0 ? told.kind : what == 1 ? told.layer : told.square;
    }

    // ---- layers

    public int made(int k, int op, int a, int b) {
        boolean reaches = op == OP_GROWN || op == OP_SHRUNK;
        boolean pairs = !reaches && op >= OP_AND && op <= OP_TOUCHED;
        if (k < DRAWN || k >= LAYERS || outside(a, k) || pairs && outside(b, k)) {
            return refuse(BEYOND);
        }
        if (!pairs && !reaches || reaches && (b < 0 || b > REACH)) {
            return refuse(NO);
        }
        drawing.tell(k, op, a, b);
        return 1;
    }

    public int flat(int cell) {
        if (outside(cell, CELLS)) {
            return refuse(BEYOND);
        }
        int needed = 1 << cell;
        for (int i = cell; i >= 0; i--) {
            if ((needed & 1 << i) != 0) {
                needed |= cells[i].placedCells();
            }
        }
        for (int i = 0; i <= cell; i++) {
            if ((needed & 1 << i) != 0) {
                cells[i].settle(cells, scratch);
            }
        }
        book.ran = false;
        wiring.found = false;
        wanted.paired = false;
        return drawing.take(cells[cell]);
    }

    public int area(int layer) {
        if (outside(layer, LAYERS)) {
            return refuse(BEYOND);
        }
        return drawing.known ? drawing.squaresOf(layer) : refuse(MISSING);
    }

    public int covered(int layer, int square) {
        if (outside(layer, LAYERS) || outside(square, SQUARES)) {
            return refuse(BEYOND);
        }
        if (!drawing.known) {
            return refuse(MISSING);
        }
        return (int) (drawing.rows[SIDE * layer + square / SIDE] >>> square % SIDE & 1);
    }

    public int pieces(int layer, int i) {
        if (outside(layer, LAYERS)) {
            return refuse(BEYOND);
        }
        if (!drawing.known) {
            return refuse(MISSING);
        }
        Groups found = drawing.piecesOf(layer);
        if (i == NONE) {
            return found.count;
        }
        return outside(i, found.count) ? refuse(BEYOND) : found.sizes[i];
    }

    // ---- rules

    public int rule(int kind, int a, int b, int n) {
        if (kind < RULE_WIDE || kind > RULE_SHARE) {
            return refuse(NO);
        }
        if (outside(a, LAYERS) || kind == RULE_INSIDE && outside(b, LAYERS)) {
            return refuse(BEYOND);
        }
        if (n < 0 || n > RuleBook.greatest(kind)) {
            return refuse(NO);
        }
        if (book.count >= RuleBook.RULES) {
            return refuse(FULL);
        }
        return book.add(kind, a, b, n);
    }

    public int run() {
        return drawing.known ? book.hold(drawing) : refuse(MISSING);
    }

    public int fault(int i, int what) {
        if (!book.ran) {
            return refuse(MISSING);
        }
        if (outside(i, Math.min(book.total, RuleBook.FAULTS))) {
            return refuse(BEYOND);
        }
        return outside(what, 4) ? refuse(NO) : book.told[4 * i + what];
    }

    public int faults(int rule, int what) {
        if (outside(rule, book.count)) {
            return refuse(BEYOND);
        }
        if (!book.ran) {
            return refuse(MISSING);
        }
        if (outside(what, 2)) {
            return refuse(NO);
        }
        return what == 0 ? book.counts[rule] : book.leasts[rule];
    }

    // ---- the circuit

    public int conducts(int layer, boolean is) {
        if (outside(layer, LAYERS)) {
            return refuse(BEYOND);
        }
        int was = wiring.conductors >> layer & 1;
        wiring.conductors &= ~(1 << layer);
        if (is) {
            wiring.conductors |= 1 << layer;
        }
        return was;
    }

    public int joint(int a, int v, int b) {
        if (outside(a, LAYERS) || outside(v, LAYERS) || outside(b, LAYERS)) {
            return refuse(BEYOND);
        }
        if (wiring.jointCount >= Circuit.JOINTS) {
            return refuse(FULL);
        }
        return wiring.addJoint(a, v, b);
    }

    public int gates(int g, int w, int c) {
        if (outside(g, LAYERS) || outside(w, LAYERS) || outside(c, LAYERS)) {
            return refuse(BEYOND);
        }
        if ((wiring.conductors & 1 << c) == 0) {
            return refuse(NO);
        }
        wiring.tellGates(g, w, c);
        return 1;
    }

    public int circuit() {
        if (!drawing.known) {
            return refuse(MISSING);
        }
        if (wiring.lacksConductor()) {
            return refuse(NO);
        }
        wiring.findNets(drawing);
        wiring.findDevices(drawing);
        wiring.found = true;
        wanted.paired = false;
        return wiring.nets.count;
    }

    public int net(int layer, int square) {
        if (outside(layer, LAYERS) || outside(square, SQUARES)) {
            return refuse(BEYOND);
        }
        if (!wiring.found) {
            return refuse(MISSING);
        }
        return wiring.conducted(layer) ? wiring.netAt(layer, square) : refuse(NO);
    }

    public int name(int net, int i) {
        if (!wiring.found) {
            return refuse(MISSING);
        }
        if (outside(net, wiring.nets.count)) {
            return refuse(BEYOND);
        }
        return i < 0 ? refuse(BELOW) : wiring.nameOf(drawing, net, i);
    }

    public int device(int i, int what) {
        if (!wiring.found) {
            return refuse(MISSING);
        }
        if (i == NONE) {
            return wiring.deviceCount;
        }
        if (outside(i, wiring.deviceCount)) {
            return refuse(BEYOND);
        }
        return outside(what, 4) ? refuse(NO) : wiring.ofDevice(i, what);
    }

    // ---- the wish

    public int wish(int nets, int size) {
        if (outside(nets, Wish.NETS * Wish.NETS * Wish.NETS) || size < 0 || size > SQUARES) {
            return refuse(NO);
        }
        return wanted.count >= Wish.THINGS ? refuse(FULL) : wanted.add(nets, size);
    }

    public int unwish() {
        int had = wanted.count;
        wanted.count = 0;
        wanted.paired = false;
        return had;
    }

    public int same() {
        if (!wiring.found) {
            return refuse(MISSING);
        }
        wanted.match(wiring);
        if (wanted.spent) {
            return refuse(SPENT);
        }
        return wanted.paired ? 1 : 0;
    }

    public int tries() {
        return wanted.tried;
    }

    public int pair(int i, boolean net) {
        if (!wanted.paired) {
            return refuse(MISSING);
        }
        if (outside(i, net ? wiring.nets.count : wiring.deviceCount)) {
            return refuse(BEYOND);
        }
        return net ? wanted.wishedOf(i) : wanted.thingOf(i);
    }

    // ---- rows

    public int lay(int layer, int y) {
        if (outside(layer, LAYERS) || outside(y, SIDE)) {
            return refuse(BEYOND);
        }
        if (!drawing.known) {
            return refuse(MISSING);
        }
        line = drawing.rows[SIDE * layer + y];
        lineThere = true;
        return Long.bitCount(line);
    }

    public int tear() {
        int was = lineThere ? 1 : 0;
        lineThere = false;
        return was;
    }

    public int row(int i) {
        if (!lineThere) {
            return refuse(MISSING);
        }
        return outside(i, SIDE) ? refuse(BEYOND) : (int) (line >>> i & 1);
    }

    public int copy(int i, int j, int n) {
        if (!lineThere) {
            return refuse(MISSING);
        }
        if (n < 0) {
            return refuse(BELOW);
        }
        if (i < 0 || j < 0 || n > SIDE || i > SIDE - n || j > SIDE - n) {
            return refuse(COPY);
        }
        long taken = line >>> i & Bits.span(0, n);
        line = line & ~Bits.span(j, n) | taken << j;
        return n;
    }

    public int status(int by) {
        if (by > MISSING || by < SPENT) {
            return refuse(NO);
        }
        return refusals[MISSING - by];
    }

    // ---- what the calls share

    private static boolean outside(int number, int end) {
        return number < 0 || number >= end;
    }

    private int refuse(int by) {
        refusals[MISSING - by]++;
        return by;
    }

    private int drawn(int cell, Shape shape) {
        outdate(cell);
        return cells[cell].add(shape);
    }

    /** A cell is placed in greater ones alone: what lesser ones came to stays as it is. */
    private void outdate(int cell) {
        for (int i = cell; i < CELLS; i++) {
            cells[i].settled = false;
        }
    }

    /** Rows of 64 squares as the bits of a long, bit x for column x. */
    private static final class Bits {
        private Bits() {
        }

        static long span(int from, int many) {
            return many >= SIDE ? -1L : (1L << many) - 1 << from;
        }

        /** The first bit of each stretch of ones. */
        static long heads(long row) {
            return row & ~(row << 1);
        }

        static int lowest(long row) {
            return Long.bitCount((row & -row) - 1);
        }

        /** How many ones stand one behind the other from bit x on. */
        static int stretch(long row, int x) {
            return lowest(~(row >>> x));
        }

        static long moved(long row, int by) {
            if (by <= -SIDE || by >= SIDE) {
                return 0;
            }
            return by >= 0 ? row << by : row >>> -by;
        }

        /** The zeros that have ones on both sides. */
        static long gaps(long row) {
            long fromLowest = -(row & -row);
            long toHighest = row;
            for (int by = 1; by < SIDE; by *= 2) {
                toHighest |= toHighest >>> by;
            }
            return ~row & fromLowest & toHighest;
        }

        static long reversed(long row) {
            long turned = row;
            turned = (turned & 0x5555555555555555L) << 1 | turned >>> 1 & 0x5555555555555555L;
            turned = (turned & 0x3333333333333333L) << 2 | turned >>> 2 & 0x3333333333333333L;
            turned = (turned & 0x0F0F0F0F0F0F0F0FL) << 4 | turned >>> 4 & 0x0F0F0F0F0F0F0F0FL;
            turned = (turned & 0x00FF00FF00FF00FFL) << 8 | turned >>> 8 & 0x00FF00FF00FF00FFL;
            turned = (turned & 0x0000FFFF0000FFFFL) << 16 | turned >>> 16 & 0x0000FFFF0000FFFFL;
            return turned << 32 | turned >>> 32;
        }

        /** Rows become columns: fields beside the diagonal are exchanged, 32 wide, then 16 and on. */
        static void transpose(long[] map) {
            long mask = 0x00000000FFFFFFFFL;
            for (int wide = SIDE / 2; wide > 0; wide /= 2) {
                for (int y = 0; y + wide < SIDE; y++) {
                    if ((y & wide) == 0) {
                        long other = (map[y] >>> wide ^ map[y + wide]) & mask;
                        map[y] ^= other << wide;
                        map[y + wide] ^= other;
                    }
                }
                mask ^= mask << wide / 2;
            }
        }

        /** A layer, grown or shrunk by n; what is beyond the plate is of no layer. */
        static void spread(long[] from, int at, long[] to, int start, int n, boolean grown) {
            for (int y = 0; y < SIDE; y++) {
                long row = from[at + y];
                for (int far = 1; far <= n; far++) {
                    long above = y - far < 0 ? 0 : from[at + y - far];
                    long below = y + far >= SIDE ? 0 : from[at + y + far];
                    row = grown ? row | above | below : row & above & below;
                }
                for (int far = 1; far <= n; far++) {
                    row = grown ? row | row << 1 | row >>> 1 : row & row << 1 & row >>> 1;
                }
                to[start + y] = row;
            }
        }

        /** Rows that grow by doubling are made seldom; what they held is not kept. */
        static int[] grown(int[] row, int need) {
            return row.length >= need ? row : new int[Math.max(need, 2 * row.length)];
        }
    }

    private static class Shape {
        final int kind;
        /** Of a placed cell this is the cell. */
        final int layer;
        final int square;

        Shape(int kind, int layer, int square) {
            this.kind = kind;
            this.layer = layer;
            this.square = square;
        }
    }

    /** A box, a hole or a path: each is an oblong of squares. */
    private static final class Patch extends Shape {
        private int top;
        private int bottom;
        private long columns;

        Patch(int kind, int layer, int square) {
            super(kind, layer, square);
        }

        void reach(int left, int upper, int right, int lower) {
            int from = Math.max(left, 0);
            int to = Math.min(right, SIDE - 1);
            top = Math.max(upper, 0);
            bottom = Math.min(lower, SIDE - 1);
            columns = Bits.span(from, to - from + 1);
        }

        void mark(long[] rows) {
            for (int y = top; y <= bottom; y++) {
                int at = SIDE * layer + y;
                rows[at] = kind == KIND_HOLE ? rows[at] & ~columns : rows[at] | columns;
            }
        }
    }

    private static final class Label extends Shape {
        private static final int NAME_BITS = 10;
        private static final int SQUARE_BITS = 12;

        final int packed;

        Label(int layer, int square, int name) {
            super(KIND_TEXT, layer, square);
            packed = pack(layer, square, name);
        }

        static int pack(int layer, int square, int name) {
            return (layer << SQUARE_BITS | square) << NAME_BITS | name;
        }

        static int layerOf(int packed) {
            return packed >>> NAME_BITS + SQUARE_BITS;
        }

        static int squareOf(int packed) {
            return packed >>> NAME_BITS & SQUARES - 1;
        }

        static int nameOf(int packed) {
            return packed & (1 << NAME_BITS) - 1;
        }
    }

    private static final class Put extends Shape {
        private static final int MOST = 4;

        private final int turned;
        private final boolean mirrored;
        private int farAcross = 0;
        private int farDown = 0;
        int manyAcross = 1;
        int manyDown = 1;

        Put(int other, int square, int turned, boolean mirrored) {
            super(KIND_PUT, other, square);
            this.turned = turned;
            this.mirrored = mirrored;
        }

        static boolean canBeTold(int told) {
            int many = told / 200;
            int far = told % 200 - 100;
            return many >= 1 && many <= MOST && far >= -FARTHEST && far <= FARTHEST;
        }

        void repeat(int across, int down) {
            manyAcross = across / 200;
            farAcross = across % 200 - 100;
            manyDown = down / 200;
            farDown = down % 200 - 100;
        }

        int xOf(int i) {
            return square % SIDE + i * farAcross;
        }

        int yOf(int j) {
            return square / SIDE + j * farDown;
        }

        void turn(long[] map) {
            if (mirrored) {
                reverseRows(map);
            }
            for (int i = 0; i < turned; i++) {
                Bits.transpose(map);
                reverseRows(map);
            }
        }

        private static void reverseRows(long[] map) {
            for (int y = 0; y < SIDE; y++) {
                map[y] = Bits.reversed(map[y]);
            }
        }

        /** Where square x, y of the placed cell comes to ahead of being moved: its x. */
        int turnedX(int x, int y) {
            int faced = mirrored ? -1 - x : x;
            return turned == 0 ? faced : turned == 1 ? -1 - y : turned == 2 ? -1 - faced : y;
        }

        int turnedY(int x, int y) {
            int faced = mirrored ? -1 - x : x;
            return turned == 0 ? y : turned == 1 ? faced : turned == 2 ? -1 - y : -1 - faced;
        }
    }

    /** Shapes, and what they come to when laid flat. */
    private static final class Cell {
        final Shape[] shapes = new Shape[SHAPES];
        int count = 0;
        boolean settled = false;
        /** Made when first laid flat: most cells never are. */
        long[] rows = new long[0];
        int[] texts = new int[0];
        int textCount = 0;

        int add(Shape shape) {
            shapes[count] = shape;
            count++;
            return count - 1;
        }

        int placedCells() {
            int placed = 0;
            for (int i = 0; i < count; i++) {
                if (shapes[i] instanceof Put put) {
                    placed |= 1 << put.layer;
                }
            }
            return placed;
        }

        void settle(Cell[] cells, long[] map) {
            if (settled) {
                return;
            }
            if (rows.length == 0) {
                rows = new long[DRAWN * SIDE];
                texts = new int[TEXTS];
            }
            Arrays.fill(rows, 0);
            textCount = 0;
            markPatches(false);
            markPatches(true);
            for (int i = 0; i < count; i++) {
                if (shapes[i] instanceof Label label) {
                    addText(label.packed);
                }
            }
            for (int i = 0; i < count; i++) {
                if (shapes[i] instanceof Put put) {
                    bring(cells[put.layer], put, map);
                }
            }
            settled = true;
        }

        private void markPatches(boolean holes) {
            for (int i = 0; i < count; i++) {
                if (shapes[i] instanceof Patch patch && holes == (patch.kind == KIND_HOLE)) {
                    patch.mark(rows);
                }
            }
        }

        private void addText(int packed) {
            if (textCount < TEXTS) {
                texts[textCount] = packed;
                textCount++;
            }
        }

        private boolean hasLayer(int layer) {
            for (int y = 0; y < SIDE; y++) {
                if (rows[SIDE * layer + y] != 0) {
                    return true;
                }
            }
            return false;
        }

        private void bring(Cell other, Put put, long[] map) {
            for (int layer = 0; layer < DRAWN; layer++) {
                if (other.hasLayer(layer)) {
                    System.arraycopy(other.rows, SIDE * layer, map, 0, SIDE);
                    put.turn(map);
                    bringMap(map, layer, put);
                }
            }
            for (int j = 0; j < put.manyDown; j++) {
                for (int i = 0; i < put.manyAcross; i++) {
                    bringTexts(other, put, i, j);
                }
            }
        }

        private void bringMap(long[] map, int layer, Put put) {
            int left = Math.min(put.turnedX(0, 0), put.turnedX(SIDE - 1, SIDE - 1));
            int top = Math.min(put.turnedY(0, 0), put.turnedY(SIDE - 1, SIDE - 1));
            for (int j = 0; j < put.manyDown; j++) {
                for (int i = 0; i < put.manyAcross; i++) {
                    addMap(map, layer, left + put.xOf(i), top + put.yOf(j));
                }
            }
        }

        private void addMap(long[] map, int layer, int x, int y) {
            for (int i = Math.max(0, -y); i < Math.min(SIDE, SIDE - y); i++) {
                rows[SIDE * layer + y + i] |= Bits.moved(map[i], x);
            }
        }

        private void bringTexts(Cell other, Put put, int i, int j) {
            for (int t = 0; t < other.textCount; t++) {
                int packed = other.texts[t];
                int square = Label.squareOf(packed);
                int x = put.turnedX(square % SIDE, square / SIDE) + put.xOf(i);
                int y = put.turnedY(square % SIDE, square / SIDE) + put.yOf(j);
                if (!outside(x, SIDE) && !outside(y, SIDE)) {
                    addText(Label.pack(Label.layerOf(packed), SIDE * y + x, Label.nameOf(packed)));
                }
            }
        }
    }

    /** The layers of one cell laid flat, and those made of them. */
    private static final class Drawing {
        private static final int MADE = LAYERS - DRAWN;

        boolean known = false;
        final long[] rows = new long[LAYERS * SIDE];
        final int[] texts = new int[TEXTS];
        int textCount = 0;
        private final int[] ops = new int[MADE];
        private final int[] firsts = new int[MADE];
        private final int[] seconds = new int[MADE];
        private final Groups pieces = new Groups(1);

        Drawing() {
            Arrays.fill(ops, NONE);
        }

        void tell(int k, int op, int a, int b) {
            ops[k - DRAWN] = op;
            firsts[k - DRAWN] = a;
            seconds[k - DRAWN] = b;
        }

        int take(Cell cell) {
            System.arraycopy(cell.rows, 0, rows, 0, DRAWN * SIDE);
            System.arraycopy(cell.texts, 0, texts, 0, cell.textCount);
            textCount = cell.textCount;
            for (int k = DRAWN; k < LAYERS; k++) {
                make(k, ops[k - DRAWN], SIDE * firsts[k - DRAWN], seconds[k - DRAWN]);
            }
            known = true;
            int many = 0;
            for (int layer = 0; layer < DRAWN; layer++) {
                many += squaresOf(layer);
            }
            return many;
        }

        private void make(int k, int op, int a, int b) {
            int at = SIDE * k;
            if (op == OP_GROWN || op == OP_SHRUNK) {
                Bits.spread(rows, a, rows, at, b, op == OP_GROWN);
            } else if (op == OP_TOUCHED) {
                pieces.find(rows, a);
                pieces.touch(rows, SIDE * b);
                for (int y = 0; y < SIDE; y++) {
                    rows[at + y] = pieces.touchedIn(y);
                }
            } else {
                for (int y = 0; y < SIDE; y++) {
                    rows[at + y] = op == NONE ? 0 : mixed(op, rows[a + y], rows[SIDE * b + y]);
                }
            }
        }

        private static long mixed(int op, long a, long b) {
            return op == OP_AND ? a & b : op == OP_OR ? a | b : a & ~b;
        }

        int squaresOf(int layer) {
            int many = 0;
            for (int y = 0; y < SIDE; y++) {
                many += Long.bitCount(rows[SIDE * layer + y]);
            }
            return many;
        }

        Groups piecesOf(int layer) {
            pieces.find(rows, SIDE * layer);
            return pieces;
        }
    }

    /**
     * What hangs together in some layers: stretches of rows are numbered line by line, and each is
     * linked to a lesser one that it hangs together with, so that the least is a group's root.
     */
    private static final class Groups {
        final long[] rows;
        int count = 0;
        int[] sizes = new int[0];
        int[] leasts = new int[0];
        int[] greatests = new int[0];
        private final int[] firsts;
        private int[] links = new int[0];
        private int stretches = 0;
        private int[] touched = new int[0];

        Groups(int layers) {
            rows = new long[SIDE * layers];
            firsts = new int[SIDE * layers];
        }

        /** The pieces of the layer that starts at a row. */
        void find(long[] from, int at) {
            System.arraycopy(from, at, rows, 0, SIDE);
            gather();
            number();
            measure();
        }

        /** The pieces of what two layers, that start at these rows, both have. */
        void findCommon(long[] from, int a, int b) {
            for (int y = 0; y < SIDE; y++) {
                rows[y] = from[a + y] & from[b + y];
            }
            gather();
            number();
            measure();
        }

        /** Each stretch is linked to those above it; more may be united ahead of number(). */
        void gather() {
            stretches = 0;
            for (int y = 0; y < rows.length; y++) {
                firsts[y] = stretches;
                stretches += Long.bitCount(Bits.heads(rows[y]));
            }
            links = Bits.grown(links, stretches);
            for (int i = 0; i < stretches; i++) {
                links[i] = i;
            }
            for (int y = 1; y < rows.length; y++) {
                if (y % SIDE != 0) {
                    unite(y - 1, y, rows[y - 1] & rows[y]);
                }
            }
        }

        /** What two lines have at bits that both have is one. */
        void unite(int lineA, int lineB, long bits) {
            long heads = Bits.heads(bits);
            int many = Long.bitCount(heads);
            for (int i = 0; i < many; i++) {
                int x = Bits.lowest(heads);
                int a = root(stretchAt(lineA, x));
                int b = root(stretchAt(lineB, x));
                links[Math.max(a, b)] = Math.min(a, b);
                heads &= heads - 1;
            }
        }

        /** Written out, not by calls of Bits: the calls that lead here already stand deep. */
        private int stretchAt(int y, int x) {
            long heads = rows[y] & ~(rows[y] << 1);
            return firsts[y] + Long.bitCount(heads & -1L >>> SIDE - 1 - x) - 1;
        }

        private int root(int stretch) {
            int at = stretch;
            for (int i = 0; i < stretches && links[at] != at; i++) {
                links[at] = links[links[at]];
                at = links[at];
            }
            return at;
        }

        /** A link goes to a lesser stretch, which has its group's number by then. */
        void number() {
            count = 0;
            for (int i = 0; i < stretches; i++) {
                if (links[i] == i) {
                    links[i] = count;
                    count++;
                } else {
                    links[i] = links[links[i]];
                }
            }
        }

        private void measure() {
            sizes = Bits.grown(sizes, count);
            leasts = Bits.grown(leasts, count);
            greatests = Bits.grown(greatests, count);
            Arrays.fill(sizes, 0);
            for (int y = 0; y < SIDE; y++) {
                long heads = Bits.heads(rows[y]);
                int many = Long.bitCount(heads);
                for (int i = 0; i < many; i++) {
                    int x = Bits.lowest(heads);
                    measureStretch(links[firsts[y] + i], SIDE * y + x, Bits.stretch(rows[y], x));
                    heads &= heads - 1;
                }
            }
        }

        private void measureStretch(int group, int square, int many) {
            if (sizes[group] == 0) {
                leasts[group] = square;
            }
            sizes[group] += many;
            greatests[group] = square + many - 1;
        }

        int groupAt(int y, int x) {
            return (rows[y] >>> x & 1) == 0 ? NONE : links[stretchAt(y, x)];
        }

        /** Groups that have a square in the layer that starts at a row are marked. */
        void touch(long[] from, int at) {
            touched = Bits.grown(touched, count);
            Arrays.fill(touched, 0);
            for (int y = 0; y < SIDE; y++) {
                long heads = Bits.heads(rows[y] & from[at + y]);
                int many = Long.bitCount(heads);
                for (int i = 0; i < many; i++) {
                    touched[links[stretchAt(y, Bits.lowest(heads))]] = 1;
                    heads &= heads - 1;
                }
            }
        }

        long touchedIn(int y) {
            long kept = 0;
            long heads = Bits.heads(rows[y]);
            int many = Long.bitCount(heads);
            for (int i = 0; i < many; i++) {
                int x = Bits.lowest(heads);
                if (touched[links[firsts[y] + i]] != 0) {
                    kept |= Bits.span(x, Bits.stretch(rows[y], x));
                }
                heads &= heads - 1;
            }
            return kept;
        }
    }

    /** Rules, and the faults that the latest run found. */
    private static final class RuleBook {
        static final int RULES = 16;
        static final int FAULTS = 600;
        private static final int FIELD = 16;

        int count = 0;
        boolean ran = false;
        int total = 0;
        /** Four numbers a fault; made by the first run. */
        int[] told = new int[0];
        final int[] counts = new int[RULES];
        final int[] leasts = new int[RULES];
        private final int[] kinds = new int[RULES];
        private final int[] layers = new int[RULES];
        private final int[] others = new int[RULES];
        private final int[] limits = new int[RULES];
        private final long[] map = new long[SIDE];

        static int greatest(int kind) {
            if (kind == RULE_WIDE || kind == RULE_APART) {
                return SIDE;
            }
            return kind == RULE_INSIDE ? REACH : SQUARES;
        }

        int add(int kind, int a, int b, int n) {
            kinds[count] = kind;
            layers[count] = a;
            others[count] = b;
            limits[count] = n;
            count++;
            return count - 1;
        }

        int hold(Drawing drawing) {
            told = Bits.grown(told, 4 * FAULTS);
            total = 0;
            Arrays.fill(counts, 0);
            Arrays.fill(leasts, NONE);
            for (int rule = 0; rule < count; rule++) {
                switch (kinds[rule]) {
                    case RULE_INSIDE:
                        holdInside(rule, drawing);
                        break;
                    case RULE_AREA:
                        holdArea(rule, drawing.piecesOf(layers[rule]));
                        break;
                    case RULE_SHARE:
                        holdShare(rule, drawing);
                        break;
                    default:
                        holdLines(rule, drawing);
                        break;
                }
            }
            ran = true;
            return total;
        }

        private void note(int rule, int square, int second, int measure) {
            if (total < FAULTS) {
                told[4 * total] = rule;
                told[4 * total + 1] = square;
                told[4 * total + 2] = second;
                told[4 * total + 3] = measure;
            }
            total++;
            if (counts[rule] == 0 || measure < leasts[rule]) {
                leasts[rule] = measure;
            }
            counts[rule]++;
        }

        private void holdLines(int rule, Drawing drawing) {
            System.arraycopy(drawing.rows, SIDE * layers[rule], map, 0, SIDE);
            holdMap(rule, SIDE, 1);
            Bits.transpose(map);
            holdMap(rule, 1, SIDE);
        }

        /** Lines are rows or columns: so far from line to line, and from square to square. */
        private void holdMap(int rule, int byLine, int bySquare) {
            for (int i = 0; i < SIDE; i++) {
                long bits = kinds[rule] == RULE_WIDE ? map[i] : Bits.gaps(map[i]);
                long heads = Bits.heads(bits);
                int many = Long.bitCount(heads);
                for (int k = 0; k < many; k++) {
                    int at = Bits.lowest(heads);
                    int size = Bits.stretch(bits, at);
                    if (size < limits[rule]) {
                        int first = byLine * i + bySquare * at;
                        note(rule, first, first + bySquare * (size - 1), size);
                    }
                    heads &= heads - 1;
                }
            }
        }

        private void holdInside(int rule, Drawing drawing) {
            int n = limits[rule];
            int other = SIDE * others[rule];
            Bits.spread(drawing.rows, other, map, 0, n, false);
            for (int y = 0; y < SIDE; y++) {
                long faulty = drawing.rows[SIDE * layers[rule] + y] & ~map[y];
                int many = Long.bitCount(faulty);
                for (int i = 0; i < many; i++) {
                    int square = SIDE * y + Bits.lowest(faulty);
                    note(rule, square, leastLacking(drawing.rows, other, square, n), n);
                    faulty &= faulty - 1;
                }
            }
        }

        /** The least square around one that the layer lacks, or that one itself. */
        private static int leastLacking(long[] rows, int at, int square, int n) {
            int left = Math.max(square % SIDE - n, 0);
            int right = Math.min(square % SIDE + n, SIDE - 1);
            int bottom = Math.min(square / SIDE + n, SIDE - 1);
            long around = Bits.span(left, right - left + 1);
            for (int y = Math.max(square / SIDE - n, 0); y <= bottom; y++) {
                long lacking = around & ~rows[at + y];
                if (lacking != 0) {
                    return SIDE * y + Bits.lowest(lacking);
                }
            }
            return square;
        }

        private void holdArea(int rule, Groups pieces) {
            for (int i = 0; i < pieces.count; i++) {
                if (pieces.sizes[i] < limits[rule]) {
                    note(rule, pieces.leasts[i], pieces.greatests[i], pieces.sizes[i]);
                }
            }
        }

        private void holdShare(int rule, Drawing drawing) {
            for (int top = 0; top < SIDE; top += FIELD) {
                for (int left = 0; left < SIDE; left += FIELD) {
                    int share = 0;
                    for (int y = top; y < top + FIELD; y++) {
                        long row = drawing.rows[SIDE * layers[rule] + y];
                        share += Long.bitCount(row & Bits.span(left, FIELD));
                    }
                    if (share < limits[rule]) {
                        int first = SIDE * top + left;
                        note(rule, first, first + (SIDE + 1) * (FIELD - 1), share);
                    }
                }
            }
        }
    }

    /** What conducts and joins, and the nets and devices that were found by it. */
    private static final class Circuit {
        static final int JOINTS = 8;

        int conductors = 0;
        int jointCount = 0;
        boolean found = false;
        int deviceCount = 0;
        final Groups nets = new Groups(LAYERS);
        private final int[] joints = new int[3 * JOINTS];
        private int gateLayer = NONE;
        private int wellLayer = NONE;
        private int endLayer = NONE;
        private int conductorsThen = 0;
        private final Groups crossings = new Groups(1);
        private int[] gateNets = new int[0];
        private int[] firstEnds = new int[0];
        private int[] secondEnds = new int[0];

        int addJoint(int a, int v, int b) {
            joints[3 * jointCount] = a;
            joints[3 * jointCount + 1] = v;
            joints[3 * jointCount + 2] = b;
            jointCount++;
            return jointCount;
        }

        void tellGates(int g, int w, int c) {
            gateLayer = g;
            wellLayer = w;
            endLayer = c;
        }

        boolean lacksConductor() {
            return endLayer != NONE && (conductors & 1 << endLayer) == 0;
        }

        void findNets(Drawing drawing) {
            Arrays.fill(nets.rows, 0);
            for (int layer = 0; layer < LAYERS; layer++) {
                if ((conductors & 1 << layer) != 0) {
                    System.arraycopy(drawing.rows, SIDE * layer, nets.rows, SIDE * layer, SIDE);
                }
            }
            conductorsThen = conductors;
            nets.gather();
            for (int i = 0; i < jointCount; i++) {
                join(drawing, SIDE * joints[3 * i], SIDE * joints[3 * i + 1], SIDE * joints[3 * i + 2]);
            }
            nets.number();
        }

        /** Layers that do not conduct have no rows among the nets: there is nothing to join. */
        private void join(Drawing drawing, int a, int v, int b) {
            for (int y = 0; y < SIDE; y++) {
                long both = nets.rows[a + y] & nets.rows[b + y];
                nets.unite(a + y, b + y, both & drawing.rows[v + y]);
            }
        }

        /** Comes behind findNets(): gates and ends are nets. */
        void findDevices(Drawing drawing) {
            deviceCount = 0;
            if (gateLayer == NONE) {
                return;
            }
            crossings.findCommon(drawing.rows, SIDE * gateLayer, SIDE * wellLayer);
            deviceCount = crossings.count;
            gateNets = Bits.grown(gateNets, deviceCount);
            firstEnds = Bits.grown(firstEnds, deviceCount);
            secondEnds = Bits.grown(secondEnds, deviceCount);
            for (int i = 0; i < deviceCount; i++) {
                gateNets[i] = netAt(gateLayer, crossings.leasts[i]);
                firstEnds[i] = NONE;
                secondEnds[i] = NONE;
            }
            for (int y = 0; y < SIDE; y++) {
                findEnds(y);
            }
        }

        private void findEnds(int y) {
            long row = crossings.rows[y];
            long heads = Bits.heads(row);
            int many = Long.bitCount(heads);
            for (int i = 0; i < many; i++) {
                int x = Bits.lowest(heads);
                int device = crossings.groupAt(y, x);
                long bits = Bits.span(x, Bits.stretch(row, x));
                meet(device, y - 1, bits);
                meet(device, y, bits | bits << 1 | bits >>> 1);
                meet(device, y + 1, bits);
                heads &= heads - 1;
            }
        }

        private void meet(int device, int y, long bits) {
            if (outside(y, SIDE)) {
                return;
            }
            int at = SIDE * endLayer + y;
            long heads = Bits.heads(nets.rows[at] & bits);
            int many = Long.bitCount(heads);
            for (int i = 0; i < many; i++) {
                addEnd(device, nets.groupAt(at, Bits.lowest(heads)));
                heads &= heads - 1;
            }
        }

        private void addEnd(int device, int net) {
            int first = firstEnds[device];
            int second = secondEnds[device];
            if (net == first || net == second) {
                return;
            }
            if (first == NONE || net < first) {
                firstEnds[device] = net;
                secondEnds[device] = first;
            } else if (second == NONE || net < second) {
                secondEnds[device] = net;
            }
        }

        boolean conducted(int layer) {
            return (conductorsThen & 1 << layer) != 0;
        }

        int netAt(int layer, int square) {
            return nets.groupAt(SIDE * layer + square / SIDE, square % SIDE);
        }

        int nameOf(Drawing drawing, int net, int i) {
            int ahead = i;
            for (int t = 0; t < drawing.textCount; t++) {
                int packed = drawing.texts[t];
                if (netAt(Label.layerOf(packed), Label.squareOf(packed)) == net) {
                    if (ahead == 0) {
                        return Label.nameOf(packed);
                    }
                    ahead--;
                }
            }
            return NONE;
        }

        int ofDevice(int i, int what) {
            switch (what) {
                case 0:
                    return crossings.sizes[i];
                case 1:
                    return gateNets[i];
                case 2:
                    return firstEnds[i];
                default:
                    return secondEnds[i];
            }
        }

        boolean isWhole(int device) {
            return gateNets[device] != NONE && secondEnds[device] != NONE;
        }
    }

    /** The circuit that is wished, and how the one that came was paired with it. */
    private static final class Wish {
        static final int THINGS = 12;
        static final int NETS = 24;
        private static final int TRIES = 5000;

        int count = 0;
        int tried = 0;
        boolean spent = false;
        boolean paired = false;
        private final int[] nets = new int[THINGS];
        private final int[] sizes = new int[THINGS];
        private final int[] things = new int[THINGS];
        private final int[] partners = new int[NETS];
        private int taken = 0;

        int add(int told, int size) {
            nets[count] = told;
            sizes[count] = size;
            count++;
            paired = false;
            return count - 1;
        }

        void match(Circuit circuit) {
            tried = 0;
            spent = false;
            paired = false;
            taken = 0;
            Arrays.fill(partners, NONE);
            if (circuit.deviceCount != count) {
                return;
            }
            for (int i = 0; i < count; i++) {
                if (!circuit.isWhole(i)) {
                    return;
                }
            }
            paired = search(circuit, 0);
        }

        /** Each level takes one thing, so the depth is 12 at most. */
        private boolean search(Circuit circuit, int device) {
            if (device >= count) {
                return true;
            }
            for (int choice = 0; choice < 2 * count; choice++) {
                int thing = choice / 2;
                if ((taken & 1 << thing) != 0) {
                    continue;
                }
                if (tried >= TRIES) {
                    spent = true;
                    return false;
                }
                tried++;
                int fresh = fit(circuit, device, thing, choice % 2 == 1);
                if (fresh == NONE) {
                    continue;
                }
                taken |= 1 << thing;
                things[device] = thing;
                if (search(circuit, device + 1)) {
                    return true;
                }
                taken &= ~(1 << thing);
                part(fresh);
                if (spent) {
                    return false;
                }
            }
            return false;
        }

        /** Wished nets that get a partner here, a bit each, or NONE if it can't be. */
        private int fit(Circuit circuit, int device, int thing, boolean swapped) {
            if (sizes[thing] != 0 && sizes[thing] != circuit.ofDevice(device, 0)) {
                return NONE;
            }
            int end = nets[thing] / NETS % NETS;
            int otherEnd = nets[thing] % NETS;
            int fresh = bind(nets[thing] / (NETS * NETS), circuit.ofDevice(device, 1), 0);
            fresh = bind(swapped ? otherEnd : end, circuit.ofDevice(device, 2), fresh);
            return bind(swapped ? end : otherEnd, circuit.ofDevice(device, 3), fresh);
        }

        private int bind(int wished, int net, int fresh) {
            if (fresh == NONE || partners[wished] == net) {
                return fresh;
            }
            if (partners[wished] != NONE || wishedOf(net) != NONE) {
                part(fresh);
                return NONE;
            }
            partners[wished] = net;
            return fresh | 1 << wished;
        }

        private void part(int fresh) {
            for (int i = 0; i < NETS; i++) {
                if ((fresh & 1 << i) != 0) {
                    partners[i] = NONE;
                }
            }
        }

        int wishedOf(int net) {
            for (int i = 0; i < NETS; i++) {
                if (partners[i] == net) {
                    return i;
                }
            }
            return NONE;
        }

        int thingOf(int device) {
            return outside(device, THINGS) ? NONE : things[device];
        }
    }
}
