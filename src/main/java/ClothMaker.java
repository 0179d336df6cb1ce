import java.util.Arrays;

/**
 * Lays nets of gates into a cloth of small tables: cones, places, ways and frames, and the cloth
 * run from its frames beside the net. The words in capitals are those of the document.
 */
public final class ClothMaker {
    public static final int NONE = -1;
    public static final int MISSING = -2;
    public static final int BEYOND = -3;
    public static final int BELOW = -4;
    public static final int KIND = -5;
    public static final int COPY = -6;
    public static final int NO = -7;
    public static final int FULL = -8;

    private static final int OK = 0;

    private static final int INPUT = 0;
    private static final int KEEPER = 1;
    private static final int GATE = 2;

    private static final int AND = 0;
    private static final int OR = 1;
    private static final int UNLIKE = 2;

    private static final int MOST_CELLS = 32;
    private static final int MOST_INPUTS = 6;
    private static final int MOST_KEEPERS = 6;
    private static final int MOST_OUTS = 8;
    private static final int MOST_CUTS = 40;
    private static final int MOST_LETTERS = 4;
    private static final int MOST_SIDE = 6;
    private static final int MOST_TILES = MOST_SIDE * MOST_SIDE;
    private static final int MOST_JOINTS = 2 * MOST_SIDE * (MOST_SIDE - 1);
    private static final int MOST_ROOM = 4;
    private static final int MOST_CARRY = 4;
    private static final int MOST_TRIES = 1000;
    private static final int MOST_TURNS = 40;
    private static final int HEAD_BYTES = 3;
    private static final int THING_BYTES = HEAD_BYTES + MOST_LETTERS + 2;
    private static final int ROW_BYTES = MOST_ROOM * THING_BYTES + 1;
    private static final int ALL_BYTES = MOST_CELLS * THING_BYTES + MOST_TILES;

    private final Net net;
    private final Cones cones;
    private final Tables found;
    private final Grid grid;
    private final Places places;
    private final Ways ways;
    private final Frames written;
    private final Runs runs;
    private final Numbers numbers;
    private final int[] refusals;

    public ClothMaker() {
        net = new Net();
        cones = new Cones();
        found = new Tables();
        grid = new Grid();
        places = new Places();
        ways = new Ways();
        written = new Frames();
        runs = new Runs();
        numbers = new Numbers();
        refusals = new int[MISSING - FULL + 1];
        grid.shape(3, 3, 2, 2);
        runs.begin(net);
    }

    // ---- the net

    public int input() {
        if (net.cells >= MOST_CELLS || net.inputs >= MOST_INPUTS) {
            return refuse(FULL);
        }
        int cell = net.addInput();
        cones.addPlain(cell);
        forgetTables();
        return cell;
    }

    public int keeper(boolean first) {
        if (net.cells >= MOST_CELLS || net.keepers >= MOST_KEEPERS) {
            return refuse(FULL);
        }
        int cell = net.addKeeper(first);
        cones.addPlain(cell);
        forgetTables();
        return cell;
    }

    public int gate(int kind, int x, int y) {
        if (kind < AND || kind > UNLIKE) {
            return refuse(NO);
        }
        if (!net.hasSign(x) || !net.hasSign(y)) {
            return refuse(BEYOND);
        }
        if (net.cells >= MOST_CELLS) {
            return refuse(FULL);
        }
        int cell = net.addGate(kind, x, y);
        cones.addGate(cell, x >> 1, y >> 1);
        forgetTables();
        return cell;
    }

    public int source(int keeper, int cell) {
        if (!net.has(keeper) || !net.has(cell)) {
            return refuse(BEYOND);
        }
        if (net.sorts[keeper] != KEEPER) {
            return refuse(KIND);
        }
        int before = net.lefts[keeper];
        net.lefts[keeper] = cell;
        forgetTables();
        return before;
    }

    public int out(int cell) {
        if (!net.has(cell)) {
            return refuse(BEYOND);
        }
        if (net.outCount >= MOST_OUTS) {
            return refuse(FULL);
        }
        net.addOut(cell);
        forgetTables();
        return net.outCount;
    }

    public int cell(int cell, int what) {
        if (!net.has(cell)) {
            return refuse(BEYOND);
        }
        switch (what) {
            case 0:
                return net.sorts[cell];
            case 1:
                return net.lefts[cell];
            case 2:
                return net.rights[cell];
            case 3:
                return net.ops[cell];
            default:
                return refuse(NO);
        }
    }

    // ---- cones

    public int cuts(int gate) {
        int wrong = wrongGate(gate);
        return wrong != OK ? refuse(wrong) : cones.counts[gate];
    }

    public int cut(int gate, int i) {
        int wrong = wrongGate(gate);
        if (wrong == OK && (i < 0 || i >= cones.counts[gate])) {
            wrong = BEYOND;
        }
        if (wrong != OK) {
            refuse(wrong);
            return 0;
        }
        return cones.members(gate, i);
    }

    public int depth(int cell) {
        return net.has(cell) ? cones.depths[cell] : refuse(BEYOND);
    }

    public int tables() {
        found.find(net, cones);
        return found.count;
    }

    public int table(int gate, int what) {
        int wrong = wrongGate(gate);
        if (wrong != OK) {
            return refuse(wrong);
        }
        if (!found.ready || !found.isTable(gate)) {
            return refuse(MISSING);
        }
        if (what < 0 || what > 1 + MOST_LETTERS) {
            return refuse(NO);
        }
        if (what == 0) {
            return found.letterCounts[gate];
        }
        return what == 1 ? found.bits[gate] : found.letter(gate, what - 2);
    }

    // ---- the cloth

    public int cloth(int wide, int high, int room, int carry) {
        if (!within(wide, 1, MOST_SIDE) || !within(high, 1, MOST_SIDE)
                || !within(room, 1, MOST_ROOM) || !within(carry, 1, MOST_CARRY)) {
            return refuse(NO);
        }
        grid.shape(wide, high, room, carry);
        forgetPlaces();
        return grid.joints;
    }

    public int broken(int tile, boolean is) {
        if (!grid.hasTile(tile)) {
            return refuse(BEYOND);
        }
        int before = grid.isBroken(tile) ? 1 : 0;
        grid.breakTile(tile, is);
        forgetPlaces();
        return before;
    }

    public int set() {
        if (!found.ready) {
            return refuse(MISSING);
        }
        if (net.inputs + net.keepers + found.count > grid.roomInAll()) {
            return refuse(FULL);
        }
        places.gather(net, found);
        places.putAll(grid);
        forgetWays();
        return places.things;
    }

    public int tile(int cell) {
        if (!net.has(cell)) {
            return refuse(BEYOND);
        }
        return places.holds(cell) ? places.tiles[cell] : refuse(MISSING);
    }

    public int move(int cell, int tile) {
        if (!net.has(cell) || !grid.hasTile(tile)) {
            return refuse(BEYOND);
        }
        if (!places.holds(cell)) {
            return refuse(MISSING);
        }
        int before = places.tiles[cell];
        if (before == tile) {
            return before;
        }
        if (!places.hasRoom(tile, grid)) {
            return refuse(FULL);
        }
        places.carryOver(cell, tile);
        forgetWays();
        return before;
    }

    public int swap(int cell, int other) {
        if (!net.has(cell) || !net.has(other)) {
            return refuse(BEYOND);
        }
        if (!places.holds(cell) || !places.holds(other)) {
            return refuse(MISSING);
        }
        places.exchange(cell, other);
        forgetWays();
        return places.spanOfAll(grid);
    }

    public int smooth(int n, long seed) {
        if (n < 0) {
            return refuse(BELOW);
        }
        if (n > MOST_TRIES) {
            return refuse(NO);
        }
        if (!places.ready) {
            return refuse(MISSING);
        }
        forgetWays();
        return places.tryExchanges(n, seed, grid);
    }

    public int cost() {
        return places.ready ? places.spanOfAll(grid) : refuse(MISSING);
    }

    public int wires(int cell, int what) {
        if (what == 1 && !net.has(cell)) {
            return refuse(BEYOND);
        }
        if (!places.ready || (what == 1 && !places.holds(cell))) {
            return refuse(MISSING);
        }
        if (what < 0 || what > 1) {
            return refuse(NO);
        }
        return what == 0 ? places.wireCount() : Long.bitCount(places.endsOf(cell));
    }

    // ---- ways

    public int lead(int n) {
        if (n < 0) {
            return refuse(BELOW);
        }
        if (n == 0 || n > MOST_TURNS) {
            return refuse(NO);
        }
        if (!places.ready) {
            return refuse(MISSING);
        }
        return ways.leadAll(n, grid, places);
    }

    public int joint(int joint) {
        if (!grid.hasJoint(joint)) {
            return refuse(BEYOND);
        }
        return ways.ready ? ways.loads[joint] : refuse(MISSING);
    }

    public int way(int cell, int i) {
        if (!net.has(cell)) {
            return refuse(BEYOND);
        }
        if (i < 0) {
            return refuse(BELOW);
        }
        if (!ways.ready || !places.holds(cell)) {
            return refuse(MISSING);
        }
        return ways.jointOf(cell, i, grid);
    }

    public int side(int joint, int what) {
        if (!grid.hasJoint(joint)) {
            return refuse(BEYOND);
        }
        switch (what) {
            case 0:
                return grid.lessers[joint];
            case 1:
                return grid.greaters[joint];
            case 2:
                return ways.ready ? ways.pasts[joint] : 0;
            default:
                return refuse(NO);
        }
    }

    public int longest() {
        return ways.ready ? ways.longestOfAll(grid, places) : refuse(MISSING);
    }

    // ---- frames

    public int frames() {
        if (!places.ready) {
            return refuse(MISSING);
        }
        written.write(net, found, grid, places);
        runs.begin(net);
        return written.size;
    }

    public int octet(int tile, int i) {
        int wrong = wrongByte(tile, i);
        return wrong != OK ? refuse(wrong) : written.bytes[written.starts[tile] + i];
    }

    public int bend(int tile, int i, int mask) {
        int wrong = wrongByte(tile, i);
        if (wrong == OK && !within(mask, 1, 255)) {
            wrong = NO;
        }
        if (wrong != OK) {
            return refuse(wrong);
        }
        int at = written.starts[tile] + i;
        written.bytes[at] ^= mask;
        return written.bytes[at];
    }

    public int check() {
        return written.ready ? written.firstWrongSum(grid) : refuse(MISSING);
    }

    public int back() {
        return written.ready ? written.strangeTables(net, found) : refuse(MISSING);
    }

    // ---- runs

    public int start() {
        runs.begin(net);
        return written.ready ? 1 : 0;
    }

    public int clock(int inputs) {
        if (inputs < 0 || inputs >= 1 << net.inputs) {
            return refuse(BEYOND);
        }
        runs.stepNet(net, inputs);
        if (written.ready) {
            runs.stepCloth(net, found, written, inputs);
        }
        return runs.netOuts;
    }

    public int told(int what) {
        if (what < 0 || what > 3) {
            return refuse(NO);
        }
        boolean ofOuts = what <= 1;
        boolean ofCloth = what == 1 || what == 3;
        if ((ofOuts && runs.clocks == 0) || (ofCloth && !written.ready)) {
            return refuse(MISSING);
        }
        if (ofOuts) {
            return ofCloth ? runs.clothOuts : runs.netOuts;
        }
        return ofCloth ? runs.differed : runs.clocks;
    }

    // ---- rows

    public int lay(int tile) {
        if (!grid.hasTile(tile)) {
            return refuse(BEYOND);
        }
        if (!written.ready) {
            return refuse(MISSING);
        }
        numbers.take(written.bytes, written.starts[tile], written.starts[tile + 1]);
        return numbers.count;
    }

    public int tear() {
        int before = numbers.there ? 1 : 0;
        numbers.there = false;
        return before;
    }

    public int row(int i) {
        if (!numbers.there) {
            return refuse(MISSING);
        }
        return i < 0 || i >= numbers.count ? refuse(BEYOND) : numbers.values[i];
    }

    public int copy(int i, int j, int n) {
        if (!numbers.there) {
            return refuse(MISSING);
        }
        if (n < 0) {
            return refuse(BELOW);
        }
        if (!numbers.hasStretch(i, n) || !numbers.hasStretch(j, n)) {
            return refuse(COPY);
        }
        System.arraycopy(numbers.values, i, numbers.values, j, n);
        return n;
    }

    public int status(int by) {
        return within(by, FULL, MISSING) ? refusals[MISSING - by] : refuse(NO);
    }

    // ---- refusals, and what a change takes away

    private int refuse(int by) {
        if (within(by, FULL, MISSING)) {
            refusals[MISSING - by]++;
        }
        return by;
    }

    private int wrongGate(int cell) {
        if (!net.has(cell)) {
            return BEYOND;
        }
        return net.sorts[cell] == GATE ? OK : KIND;
    }

    private int wrongByte(int tile, int i) {
        if (!grid.hasTile(tile)) {
            return BEYOND;
        }
        if (!written.ready) {
            return MISSING;
        }
        return i < 0 || i >= written.lengthOf(tile) ? BEYOND : OK;
    }

    private void forgetTables() {
        found.ready = false;
        forgetPlaces();
        runs.begin(net);
    }

    private void forgetPlaces() {
        places.ready = false;
        forgetWays();
    }

    private void forgetWays() {
        ways.ready = false;
        written.ready = false;
    }

    private static boolean within(int number, int least, int most) {
        return number >= least && number <= most;
    }

    /** For sets of CELLS too: an int that is widened keeps its 32 bits. */
    private static boolean hasBit(long bits, int i) {
        return (bits >>> i & 1L) == 1L;
    }

    /** CELLS as they came, with OUTS. */
    private static final class Net {
        final int[] sorts = new int[MOST_CELLS];
        /** SOURCE of a KEEPER, SIGN x of a GATE. */
        final int[] lefts = new int[MOST_CELLS];
        final int[] rights = new int[MOST_CELLS];
        final int[] ops = new int[MOST_CELLS];
        final int[] outs = new int[MOST_OUTS];
        int cells;
        int inputs;
        int keepers;
        int outCount;
        /** Bit c: CELL c is a GATE. */
        int gates;
        /** Bit c: KEEPER c is 1 at first. */
        int firsts;

        boolean has(int cell) {
            return cell >= 0 && cell < cells;
        }

        boolean hasSign(int sign) {
            return sign >= 0 && sign < 2 * cells;
        }

        int addInput() {
            inputs++;
            return add(INPUT, NONE, NONE, NONE);
        }

        int addKeeper(boolean first) {
            keepers++;
            if (first) {
                firsts |= 1 << cells;
            }
            return add(KEEPER, cells, NONE, NONE);
        }

        int addGate(int op, int x, int y) {
            gates |= 1 << cells;
            return add(GATE, x, y, op);
        }

        private int add(int sort, int left, int right, int op) {
            int cell = cells;
            sorts[cell] = sort;
            lefts[cell] = left;
            rights[cell] = right;
            ops[cell] = op;
            cells++;
            return cell;
        }

        void addOut(int cell) {
            outs[outCount] = cell;
            outCount++;
        }

        /** Works on all bits of the words at once, so that TABLES and runs share it. */
        int reckon(int gate, int[] words) {
            int x = word(lefts[gate], words);
            int y = word(rights[gate], words);
            if (ops[gate] == AND) {
                return x & y;
            }
            return ops[gate] == OR ? x | y : x ^ y;
        }

        private static int word(int sign, int[] words) {
            int plain = words[sign >> 1];
            return (sign & 1) == 1 ? ~plain : plain;
        }
    }

    /**
     * CUTS of GATES. Each is kept as a RANK: DEPTH, how many CELLS, and the set as bits, from the
     * highest bits down, so that the first CUT is the least number.
     */
    private static final class Cones {
        private static final int DEPTH_AT = 40;
        private static final int SIZE_AT = 32;
        private static final long SET_BITS = 0xFFFFFFFFL;

        final int[] counts = new int[MOST_CELLS];
        final int[] depths = new int[MOST_CELLS];
        private final long[] ranks = new long[MOST_CELLS * MOST_CUTS];

        void addPlain(int cell) {
            counts[cell] = 0;
            depths[cell] = 0;
        }

        void addGate(int gate, int x, int y) {
            counts[gate] = 0;
            for (int i = 0; i <= counts[x]; i++) {
                long ofX = choice(x, i);
                for (int j = 0; j <= counts[y]; j++) {
                    offer(gate, ofX, choice(y, j));
                }
            }
            depths[gate] = (int) (ranks[gate * MOST_CUTS] >>> DEPTH_AT);
        }

        int members(int gate, int i) {
            return (int) ranks[gate * MOST_CUTS + i];
        }

        /** Behind its last CUT stands the CELL alone. */
        private long choice(int cell, int i) {
            if (i < counts[cell]) {
                return ranks[cell * MOST_CUTS + i];
            }
            return rank(depths[cell] + 1, 1, 1L << cell);
        }

        private static long rank(long depth, long size, long set) {
            return depth << DEPTH_AT | size << SIZE_AT | set;
        }

        private void offer(int gate, long one, long other) {
            long set = (one | other) & SET_BITS;
            int size = Long.bitCount(set);
            if (size <= MOST_LETTERS) {
                long depth = Math.max(one >>> DEPTH_AT, other >>> DEPTH_AT);
                insert(gate, rank(depth, size, set));
            }
        }

        private void insert(int gate, long rank) {
            int base = gate * MOST_CUTS;
            int count = counts[gate];
            int at = count;
            while (at > 0 && ranks[base + at - 1] >= rank) {
                at--;
            }
            boolean known = at < count && ranks[base + at] == rank;
            if (known || at >= MOST_CUTS) {
                return;
            }
            int last = Math.min(count, MOST_CUTS - 1);
            for (int k = last; k > at; k--) {
                ranks[base + k] = ranks[base + k - 1];
            }
            ranks[base + at] = rank;
            counts[gate] = last + 1;
        }
    }

    /** TABLES: the WANTED GATES with their LETTERS and BITS. */
    private static final class Tables {
        /** BITS of a GATE that is its LETTER j alone. */
        private static final int[] LETTER_BITS = {0xAAAA, 0xCCCC, 0xF0F0, 0xFF00};
        private static final int ALL_BITS = 0xFFFF;

        boolean ready;
        int count;
        final int[] letterCounts = new int[MOST_CELLS];
        final int[] bits = new int[MOST_CELLS];
        private final int[] letters = new int[MOST_CELLS * MOST_LETTERS];
        private final int[] words = new int[MOST_CELLS];
        /** Bit c: GATE c is WANTED. */
        private int wanted;

        boolean isTable(int cell) {
            return hasBit(wanted, cell);
        }

        int letter(int gate, int j) {
            return j < letterCounts[gate] ? letters[gate * MOST_LETTERS + j] : NONE;
        }

        void find(Net net, Cones cones) {
            wanted = askedFor(net);
            count = 0;
            // A CONE has only CELLS before its GATE: going down, each GATE is asked for in time.
            for (int gate = net.cells - 1; gate >= 0; gate--) {
                if (isTable(gate)) {
                    int cone = cones.members(gate, 0);
                    wanted |= cone & net.gates;
                    takeLetters(gate, cone);
                    bits[gate] = reckonBits(gate, cone, net);
                    count++;
                }
            }
            ready = true;
        }

        private static int askedFor(Net net) {
            int asked = 0;
            for (int i = 0; i < net.outCount; i++) {
                asked |= 1 << net.outs[i];
            }
            for (int c = 0; c < net.cells; c++) {
                if (net.sorts[c] == KEEPER) {
                    asked |= 1 << net.lefts[c];
                }
            }
            return asked & net.gates;
        }

        private void takeLetters(int gate, int cone) {
            int taken = 0;
            for (int c = 0; c < gate && taken < MOST_LETTERS; c++) {
                if (hasBit(cone, c)) {
                    letters[gate * MOST_LETTERS + taken] = c;
                    taken++;
                }
            }
            letterCounts[gate] = taken;
        }

        private int reckonBits(int gate, int cone, Net net) {
            int taken = 0;
            for (int c = 0; c <= gate; c++) {
                if (hasBit(cone, c) && taken < MOST_LETTERS) {
                    words[c] = LETTER_BITS[taken];
                    taken++;
                } else {
                    // What lies behind the LETTERS can't be seen, so INPUTS there may be anything.
                    words[c] = net.sorts[c] == GATE ? net.reckon(c, words) : 0;
                }
            }
            return words[gate] & ALL_BITS;
        }
    }

    /** TILES and JOINTS of THE CLOTH. */
    private static final class Grid {
        /** JOINTS of a TILE as its neighbours are numbered: above, left, right, below. */
        private static final int NEIGHBOURS = 4;
        private static final int ABOVE = 0;
        private static final int LEFT = 1;
        private static final int RIGHT = 2;
        private static final int UNDER = 3;

        int carry;
        int tileCount;
        int joints;
        final int[] columns = new int[MOST_TILES];
        final int[] lines = new int[MOST_TILES];
        final int[] lessers = new int[MOST_JOINTS];
        final int[] greaters = new int[MOST_JOINTS];
        private final int[] around = new int[MOST_TILES * NEIGHBOURS];
        private int room;
        /** Bit t: TILE t is BROKEN. */
        private long brokenTiles;

        void shape(int wide, int high, int room, int carry) {
            this.room = room;
            this.carry = carry;
            tileCount = wide * high;
            joints = 0;
            brokenTiles = 0L;
            Arrays.fill(around, NONE);
            for (int t = 0; t < tileCount; t++) {
                boolean newLine = t > 0 && columns[t - 1] == wide - 1;
                columns[t] = t == 0 || newLine ? 0 : columns[t - 1] + 1;
                lines[t] = t == 0 ? 0 : lines[t - 1] + (newLine ? 1 : 0);
            }
            for (int t = 0; t < tileCount; t++) {
                if (columns[t] < wide - 1) {
                    addJoint(t, t + 1, RIGHT, LEFT);
                }
            }
            for (int t = 0; t < tileCount - wide; t++) {
                addJoint(t, t + wide, UNDER, ABOVE);
            }
        }

        private void addJoint(int lesser, int greater, int fromLesser, int fromGreater) {
            lessers[joints] = lesser;
            greaters[joints] = greater;
            around[lesser * NEIGHBOURS + fromLesser] = joints;
            around[greater * NEIGHBOURS + fromGreater] = joints;
            joints++;
        }

        boolean hasTile(int tile) {
            return tile >= 0 && tile < tileCount;
        }

        boolean hasJoint(int joint) {
            return joint >= 0 && joint < joints;
        }

        boolean isBroken(int tile) {
            return hasBit(brokenTiles, tile);
        }

        void breakTile(int tile, boolean is) {
            long bit = 1L << tile;
            brokenTiles = is ? brokenTiles | bit : brokenTiles & ~bit;
        }

        int roomOf(int tile) {
            return isBroken(tile) ? 0 : room;
        }

        int roomInAll() {
            return (tileCount - Long.bitCount(brokenTiles)) * room;
        }

        int beyondJoint(int joint, int tile) {
            return lessers[joint] == tile ? greaters[joint] : lessers[joint];
        }

        /** The JOINT over which the way that led to a TILE came there; NONE where it began. */
        int jointBack(int tile, int[] fars, int[] prices) {
            for (int k = 0; k < NEIGHBOURS; k++) {
                int joint = around[tile * NEIGHBOURS + k];
                if (joint != NONE && fars[beyondJoint(joint, tile)] + prices[joint] == fars[tile]) {
                    return joint;
                }
            }
            return NONE;
        }
    }

    /** THINGS in TILES, and WIRES between them. */
    private static final class Places {
        private static final long SEED_TIMES = 6364136223846793005L;
        private static final long SEED_AND = 1442695040888963407L;
        private static final int SEED_SHIFT = 33;

        boolean ready;
        int things;
        /** CELLS of THINGS. */
        final int[] order = new int[MOST_CELLS];
        /** By CELLS; NONE: it is no THING. */
        final int[] tiles = new int[MOST_CELLS];
        private final int[] loads = new int[MOST_TILES];
        /** Bit f of a THING's: it has CELL f as a LETTER or SOURCE. */
        private final int[] feeders = new int[MOST_CELLS];
        /** The same from the other end: bit u of a THING's: CELL u has it so. */
        private final int[] users = new int[MOST_CELLS];

        /** Finds the THINGS; it is putAll() that sets them. */
        void gather(Net net, Tables found) {
            things = 0;
            Arrays.fill(users, 0);
            for (int c = 0; c < net.cells; c++) {
                feeders[c] = feedersOf(c, net, found);
                linkUser(c, feeders[c]);
                if (net.sorts[c] != GATE || found.isTable(c)) {
                    order[things] = c;
                    things++;
                }
            }
        }

        private static int feedersOf(int cell, Net net, Tables found) {
            if (net.sorts[cell] == KEEPER) {
                return 1 << net.lefts[cell];
            }
            int all = 0;
            if (net.sorts[cell] == GATE && found.isTable(cell)) {
                for (int j = 0; j < found.letterCounts[cell]; j++) {
                    all |= 1 << found.letter(cell, j);
                }
            }
            return all;
        }

        private void linkUser(int user, int itsFeeders) {
            for (int c = 0; c < MOST_CELLS; c++) {
                if (hasBit(itsFeeders, c)) {
                    users[c] |= 1 << user;
                }
            }
        }

        void putAll(Grid grid) {
            Arrays.fill(tiles, NONE);
            Arrays.fill(loads, 0);
            int next = 0;
            for (int t = 0; t < grid.tileCount; t++) {
                for (int k = grid.roomOf(t); k > 0 && next < things; k--) {
                    tiles[order[next]] = t;
                    loads[t]++;
                    next++;
                }
            }
            ready = true;
        }

        boolean holds(int cell) {
            return ready && tiles[cell] != NONE;
        }

        boolean hasRoom(int tile, Grid grid) {
            return loads[tile] < grid.roomOf(tile);
        }

        void carryOver(int cell, int tile) {
            loads[tiles[cell]]--;
            loads[tile]++;
            tiles[cell] = tile;
        }

        void exchange(int cell, int other) {
            int before = tiles[cell];
            tiles[cell] = tiles[other];
            tiles[other] = before;
        }

        /** ENDS of a THING's WIRE as bits of TILES; none: it has no WIRE. */
        long endsOf(int cell) {
            long ends = 0L;
            int its = users[cell];
            for (int u = 0; u < MOST_CELLS && its >>> u != 0; u++) {
                if (hasBit(its, u)) {
                    ends |= 1L << tiles[u];
                }
            }
            return ends & ~(1L << tiles[cell]);
        }

        int wireCount() {
            int count = 0;
            for (int i = 0; i < things; i++) {
                if (endsOf(order[i]) != 0L) {
                    count++;
                }
            }
            return count;
        }

        int spanOfAll(Grid grid) {
            int sum = 0;
            for (int i = 0; i < things; i++) {
                sum += spanOf(order[i], grid);
            }
            return sum;
        }

        private int spanOf(int cell, Grid grid) {
            int its = users[cell];
            int leftmost = grid.columns[tiles[cell]];
            int rightmost = leftmost;
            int upmost = grid.lines[tiles[cell]];
            int downmost = upmost;
            for (int u = 0; u < MOST_CELLS && its >>> u != 0; u++) {
                if (hasBit(its, u)) {
                    int column = grid.columns[tiles[u]];
                    int line = grid.lines[tiles[u]];
                    leftmost = Math.min(leftmost, column);
                    rightmost = Math.max(rightmost, column);
                    upmost = Math.min(upmost, line);
                    downmost = Math.max(downmost, line);
                }
            }
            return rightmost - leftmost + downmost - upmost;
        }

        int tryExchanges(int tries, long seed, Grid grid) {
            if (things <= 0) {
                return 0;
            }
            int did = 0;
            long state = seed;
            for (int k = 0; k < tries; k++) {
                state = state * SEED_TIMES + SEED_AND;
                int cell = order[(int) ((state >>> SEED_SHIFT) % things)];
                state = state * SEED_TIMES + SEED_AND;
                int other = order[(int) ((state >>> SEED_SHIFT) % things)];
                if (exchangeUnlessLonger(cell, other, grid)) {
                    did++;
                }
            }
            return did;
        }

        private boolean exchangeUnlessLonger(int cell, int other, Grid grid) {
            // No other WIRE has one of these two at an end, so no other can get longer.
            int touched = 1 << cell | 1 << other | feeders[cell] | feeders[other];
            int before = spanOfSome(touched, grid);
            exchange(cell, other);
            if (spanOfSome(touched, grid) > before) {
                exchange(cell, other);
                return false;
            }
            return true;
        }

        private int spanOfSome(int cells, Grid grid) {
            int sum = 0;
            for (int c = 0; c < MOST_CELLS && cells >>> c != 0; c++) {
                if (hasBit(cells, c)) {
                    sum += spanOf(c, grid);
                }
            }
            return sum;
        }
    }

    /** WIRES led over JOINTS. */
    private static final class Ways {
        /** Far above any sum of PRICES, and far below where a sum with one more would wrap. */
        private static final int FAR = 1 << 29;
        private static final long ALL_JOINTS = -1L;

        boolean ready;
        final int[] loads = new int[MOST_JOINTS];
        final int[] pasts = new int[MOST_JOINTS];
        /** By CELLS: bit j: the WIRE has JOINT j. */
        private final long[] paths = new long[MOST_CELLS];
        private final int[] prices = new int[MOST_JOINTS];
        /** The least sum of PRICES from the TREE to each TILE: 0 in the TREE, and only there. */
        private final int[] fars = new int[MOST_TILES];

        int leadAll(int turns, Grid grid, Places places) {
            ready = true;
            Arrays.fill(loads, 0);
            Arrays.fill(pasts, 0);
            Arrays.fill(paths, 0L);
            for (int turn = 1; turn <= turns; turn++) {
                for (int i = 0; i < places.things; i++) {
                    leadWire(places.order[i], grid, places);
                }
                if (!addPasts(grid)) {
                    return turn;
                }
            }
            return NONE;
        }

        private boolean addPasts(Grid grid) {
            boolean tooMany = false;
            for (int j = 0; j < grid.joints; j++) {
                if (loads[j] > grid.carry) {
                    pasts[j] += loads[j] - grid.carry;
                    tooMany = true;
                }
            }
            return tooMany;
        }

        private void leadWire(int cell, Grid grid, Places places) {
            takeOff(cell, grid);
            long ends = places.endsOf(cell);
            if (ends == 0L) {
                return;
            }
            setPrices(grid);
            plantTree(places.tiles[cell]);
            for (int t = 0; t < grid.tileCount; t++) {
                if (hasBit(ends, t) && fars[t] != 0) {
                    measure(grid, ALL_JOINTS);
                    goBack(cell, t, grid);
                }
            }
        }

        private void takeOff(int cell, Grid grid) {
            for (int j = 0; j < grid.joints; j++) {
                if (hasBit(paths[cell], j)) {
                    loads[j]--;
                }
            }
            paths[cell] = 0L;
        }

        /**
         * Once for a WIRE is enough: what it takes on the way are JOINTS inside its TREE, over
         * which no later END is reached.
         */
        private void setPrices(Grid grid) {
            for (int j = 0; j < grid.joints; j++) {
                prices[j] = (1 + pasts[j]) * (1 + Math.max(0, loads[j] + 1 - grid.carry));
            }
        }

        private void plantTree(int tile) {
            Arrays.fill(fars, FAR);
            fars[tile] = 0;
        }

        /** Sums only shrink while the TREE grows: what was found before stays as a bound. */
        private void measure(Grid grid, long allowed) {
            boolean changed = true;
            for (int round = 0; round < grid.tileCount && changed; round++) {
                changed = false;
                for (int j = 0; j < grid.joints; j++) {
                    changed |= hasBit(allowed, j) && relax(j, grid);
                }
                for (int j = grid.joints - 1; j >= 0; j--) {
                    changed |= hasBit(allowed, j) && relax(j, grid);
                }
            }
        }

        private boolean relax(int joint, Grid grid) {
            int lesser = grid.lessers[joint];
            int greater = grid.greaters[joint];
            int price = prices[joint];
            if (fars[lesser] + price < fars[greater]) {
                fars[greater] = fars[lesser] + price;
                return true;
            }
            if (fars[greater] + price < fars[lesser]) {
                fars[lesser] = fars[greater] + price;
                return true;
            }
            return false;
        }

        private void goBack(int cell, int end, Grid grid) {
            long gone = 0L;
            int at = end;
            for (int step = 0; step < grid.tileCount && fars[at] != 0; step++) {
                int joint = grid.jointBack(at, fars, prices);
                if (joint == NONE) {
                    break;
                }
                gone |= 1L << at;
                paths[cell] |= 1L << joint;
                loads[joint]++;
                at = grid.beyondJoint(joint, at);
            }
            // Only now: a 0 on the way would look like a shorter way to the next step back.
            joinTree(gone, grid);
        }

        private void joinTree(long gone, Grid grid) {
            for (int t = 0; t < grid.tileCount; t++) {
                if (hasBit(gone, t)) {
                    fars[t] = 0;
                }
            }
        }

        int jointOf(int cell, int i, Grid grid) {
            int left = i;
            for (int j = 0; j < grid.joints; j++) {
                if (hasBit(paths[cell], j)) {
                    if (left == 0) {
                        return j;
                    }
                    left--;
                }
            }
            return NONE;
        }

        int longestOfAll(Grid grid, Places places) {
            Arrays.fill(prices, 1);
            int longest = 0;
            for (int i = 0; i < places.things; i++) {
                longest = Math.max(longest, longestOf(places.order[i], grid, places));
            }
            return longest;
        }

        private int longestOf(int cell, Grid grid, Places places) {
            long ends = places.endsOf(cell);
            if (ends == 0L) {
                return 0;
            }
            plantTree(places.tiles[cell]);
            measure(grid, paths[cell]);
            int longest = 0;
            for (int t = 0; t < grid.tileCount; t++) {
                if (hasBit(ends, t)) {
                    longest = Math.max(longest, fars[t]);
                }
            }
            return longest;
        }
    }

    /** FRAMES of all TILES, one behind another. */
    private static final class Frames {
        private static final int BYTE_BITS = 0xFF;

        boolean ready;
        int size;
        final int[] bytes = new int[ALL_BYTES];
        /** Where each TILE's FRAME begins, and behind the last where it ends. */
        final int[] starts = new int[MOST_TILES + 1];
        /** Where the LETTERS of each THING begin, by CELLS. */
        private final int[] lettersAt = new int[MOST_CELLS];

        void write(Net net, Tables found, Grid grid, Places places) {
            size = 0;
            for (int t = 0; t < grid.tileCount; t++) {
                starts[t] = size;
                for (int i = 0; i < places.things; i++) {
                    int cell = places.order[i];
                    if (places.tiles[cell] == t) {
                        writeThing(cell, net, found);
                    }
                }
                put(sumOf(starts[t], size));
            }
            starts[grid.tileCount] = size;
            ready = true;
        }

        private void writeThing(int cell, Net net, Tables found) {
            int sort = net.sorts[cell];
            put(cell);
            put(sort);
            lettersAt[cell] = size + 1;
            if (sort == INPUT) {
                put(0);
            } else if (sort == KEEPER) {
                put(1);
                put(net.lefts[cell]);
            } else {
                put(found.letterCounts[cell]);
                for (int j = 0; j < found.letterCounts[cell]; j++) {
                    put(found.letter(cell, j));
                }
                put(found.bits[cell] & BYTE_BITS);
                put(found.bits[cell] >>> 8);
            }
        }

        private void put(int number) {
            if (size < ALL_BYTES) {
                bytes[size] = number;
                size++;
            }
        }

        private int sumOf(int from, int to) {
            int sum = 0;
            for (int i = from; i < to; i++) {
                sum += bytes[i];
            }
            return 255 - sum & BYTE_BITS;
        }

        int lengthOf(int tile) {
            return starts[tile + 1] - starts[tile];
        }

        int firstWrongSum(Grid grid) {
            for (int t = 0; t < grid.tileCount; t++) {
                int last = starts[t + 1] - 1;
                if (bytes[last] != sumOf(starts[t], last)) {
                    return t;
                }
            }
            return NONE;
        }

        int strangeTables(Net net, Tables found) {
            int count = 0;
            for (int c = 0; c < net.cells; c++) {
                if (found.isTable(c) && bitsThere(c, found) != found.bits[c]) {
                    count++;
                }
            }
            return count;
        }

        int letterThere(int cell, int j) {
            return bytes[lettersAt[cell] + j];
        }

        int bitsThere(int cell, Tables found) {
            int at = lettersAt[cell] + found.letterCounts[cell];
            return bytes[at] | bytes[at + 1] << 8;
        }
    }

    /** The net and THE CLOTH as they run beside one another. */
    private static final class Runs {
        int clocks;
        int netOuts;
        int clothOuts;
        /** The first CLOCK at which OUTS differed. */
        int differed;
        /** Bit 0 is the value; what stands above it does not matter. */
        private final int[] netValues = new int[MOST_CELLS];
        private final int[] clothValues = new int[MOST_CELLS];

        void begin(Net net) {
            clocks = 0;
            netOuts = 0;
            clothOuts = 0;
            differed = NONE;
            for (int c = 0; c < MOST_CELLS; c++) {
                netValues[c] = net.firsts >>> c & 1;
                clothValues[c] = netValues[c];
            }
        }

        void stepNet(Net net, int inputs) {
            takeInputs(netValues, net, inputs);
            for (int c = 0; c < net.cells; c++) {
                if (net.sorts[c] == GATE) {
                    netValues[c] = net.reckon(c, netValues);
                }
            }
            netOuts = outsOf(netValues, net);
            int next = 0;
            for (int c = 0; c < net.cells; c++) {
                if (net.sorts[c] == KEEPER && hasBit(netValues[net.lefts[c]], 0)) {
                    next |= 1 << c;
                }
            }
            setKeepers(netValues, net, next);
            clocks++;
        }

        /** Behind stepNet(): it looks at what the net told at this CLOCK. */
        void stepCloth(Net net, Tables found, Frames frames, int inputs) {
            takeInputs(clothValues, net, inputs);
            for (int c = 0; c < net.cells; c++) {
                if (found.isTable(c)) {
                    clothValues[c] = tableValue(c, net, found, frames);
                }
            }
            clothOuts = outsOf(clothValues, net);
            int next = 0;
            for (int c = 0; c < net.cells; c++) {
                if (net.sorts[c] == KEEPER) {
                    next |= letterValue(frames.letterThere(c, 0), net) << c;
                }
            }
            setKeepers(clothValues, net, next);
            if (differed == NONE && clothOuts != netOuts) {
                differed = clocks;
            }
        }

        private int tableValue(int cell, Net net, Tables found, Frames frames) {
            int i = 0;
            for (int j = 0; j < found.letterCounts[cell]; j++) {
                i |= letterValue(frames.letterThere(cell, j), net) << j;
            }
            return frames.bitsThere(cell, found) >>> i & 1;
        }

        /** GATES that are no TABLES, or not reckoned yet, are still 0 from takeInputs(). */
        private int letterValue(int letter, Net net) {
            return net.has(letter) ? clothValues[letter] & 1 : 0;
        }

        private static void takeInputs(int[] values, Net net, int inputs) {
            int left = inputs;
            for (int c = 0; c < net.cells; c++) {
                if (net.sorts[c] == INPUT) {
                    values[c] = left & 1;
                    left >>>= 1;
                } else if (net.sorts[c] == GATE) {
                    values[c] = 0;
                }
            }
        }

        private static int outsOf(int[] values, Net net) {
            int outs = 0;
            for (int i = 0; i < net.outCount; i++) {
                outs |= (values[net.outs[i]] & 1) << i;
            }
            return outs;
        }

        private static void setKeepers(int[] values, Net net, int next) {
            for (int c = 0; c < net.cells; c++) {
                if (net.sorts[c] == KEEPER) {
                    values[c] = next >>> c & 1;
                }
            }
        }
    }

    /** THE ROW. */
    private static final class Numbers {
        boolean there;
        int count;
        final int[] values = new int[ROW_BYTES];

        void take(int[] bytes, int from, int to) {
            count = Math.min(to - from, ROW_BYTES);
            System.arraycopy(bytes, from, values, 0, count);
            there = true;
        }

        boolean hasStretch(int from, int length) {
            return from >= 0 && (long) from + length <= count;
        }
    }
}
