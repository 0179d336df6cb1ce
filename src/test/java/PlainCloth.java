import java.util.ArrayList;
import java.util.Arrays;
import java.util.HashSet;
import java.util.List;
import java.util.Set;
import java.util.TreeMap;
import java.util.TreeSet;

/**
 * The document once more, as slowly and plainly as it can be said, with nothing kept that could be
 * reckoned anew. BesideModelTest sets ClothMaker beside it.
 */
final class PlainCloth {
    static final int NONE = -1;
    static final int MISSING = -2;
    static final int BEYOND = -3;
    static final int BELOW = -4;
    static final int KIND = -5;
    static final int COPY = -6;
    static final int NO = -7;
    static final int FULL = -8;

    private static final class Cell {
        int sort;
        int source = NONE;
        int x = NONE;
        int y = NONE;
        int kind = NONE;
        boolean first;
        List<TreeSet<Integer>> cuts = new ArrayList<>();
        int depth;
    }

    private final List<Cell> cells = new ArrayList<>();
    private final List<Integer> outs = new ArrayList<>();
    private Set<Integer> tables;
    private int wide = 3;
    private int high = 3;
    private int room = 2;
    private int carry = 2;
    private Set<Integer> broken = new HashSet<>();
    private TreeMap<Integer, Integer> places;
    private TreeMap<Integer, TreeSet<Integer>> ways;
    private int[] past = new int[0];
    private int[][] frames;
    private boolean[] netValues = new boolean[32];
    private boolean[] clothValues = new boolean[32];
    private int clocks;
    private int netOuts;
    private int clothOuts;
    private int differed = NONE;
    private int[] row;
    private final int[] refused = new int[9];

    private int no(int by) {
        refused[-by]++;
        return by;
    }

    private boolean has(int cell) {
        return 0 <= cell && cell < cells.size();
    }

    private int many(int sort) {
        int n = 0;
        for (Cell c : cells) {
            n += c.sort == sort ? 1 : 0;
        }
        return n;
    }

    private void begin() {
        for (int c = 0; c < 32; c++) {
            netValues[c] = clothValues[c] = has(c) && cells.get(c).first;
        }
        clocks = 0;
        differed = NONE;
    }

    private void netChanged() {
        tables = null;
        clothChanged();
        begin();
    }

    private void clothChanged() {
        places = null;
        placesChanged();
    }

    private void placesChanged() {
        ways = null;
        past = new int[60];
        frames = null;
    }

    private int add(Cell cell) {
        cells.add(cell);
        netChanged();
        return cells.size() - 1;
    }

    int input() {
        if (cells.size() == 32 || many(0) == 6) {
            return no(FULL);
        }
        return add(new Cell());
    }

    int keeper(boolean first) {
        if (cells.size() == 32 || many(1) == 6) {
            return no(FULL);
        }
        Cell cell = new Cell();
        cell.sort = 1;
        cell.first = first;
        cell.source = cells.size();
        return add(cell);
    }

    int gate(int kind, int x, int y) {
        if (kind != 0 && kind != 1 && kind != 2) {
            return no(NO);
        }
        if (x < 0 || y < 0 || !has(x / 2) || !has(y / 2)) {
            return no(BEYOND);
        }
        if (cells.size() == 32) {
            return no(FULL);
        }
        Cell cell = new Cell();
        cell.sort = 2;
        cell.kind = kind;
        cell.x = x;
        cell.y = y;
        findCuts(cell);
        return add(cell);
    }

    private List<TreeSet<Integer>> cutsOrAlone(int cell) {
        List<TreeSet<Integer>> all = new ArrayList<>(cells.get(cell).cuts);
        all.add(new TreeSet<>(List.of(cell)));
        return all;
    }

    private int depthOf(Set<Integer> cut) {
        int most = 0;
        for (int c : cut) {
            most = Math.max(most, cells.get(c).depth);
        }
        return most + 1;
    }

    private static int asBits(Set<Integer> cut) {
        int bits = 0;
        for (int c : cut) {
            bits += 1 << c;
        }
        return bits;
    }

    private int firstOf(Set<Integer> a, Set<Integer> b) {
        if (depthOf(a) != depthOf(b)) {
            return depthOf(a) - depthOf(b);
        }
        if (a.size() != b.size()) {
            return a.size() - b.size();
        }
        return Integer.compare(asBits(a), asBits(b));
    }

    private void findCuts(Cell gate) {
        Set<TreeSet<Integer>> all = new HashSet<>();
        for (TreeSet<Integer> a : cutsOrAlone(gate.x / 2)) {
            for (TreeSet<Integer> b : cutsOrAlone(gate.y / 2)) {
                TreeSet<Integer> both = new TreeSet<>(a);
                both.addAll(b);
                if (both.size() <= 4) {
                    all.add(both);
                }
            }
        }
        List<TreeSet<Integer>> sorted = new ArrayList<>(all);
        sorted.sort(this::firstOf);
        gate.cuts = new ArrayList<>(sorted.subList(0, Math.min(40, sorted.size())));
        gate.depth = depthOf(gate.cuts.get(0));
    }

    int source(int keeper, int cell) {
        if (!has(keeper) || !has(cell)) {
            return no(BEYOND);
        }
        if (cells.get(keeper).sort != 1) {
            return no(KIND);
        }
        int before = cells.get(keeper).source;
        cells.get(keeper).source = cell;
        netChanged();
        return before;
    }

    int out(int cell) {
        if (!has(cell)) {
            return no(BEYOND);
        }
        if (outs.size() == 8) {
            return no(FULL);
        }
        outs.add(cell);
        netChanged();
        return outs.size();
    }

    int cell(int cell, int what) {
        if (!has(cell)) {
            return no(BEYOND);
        }
        Cell c = cells.get(cell);
        if (what == 0) {
            return c.sort;
        }
        if (what == 1) {
            return c.sort == 1 ? c.source : c.x;
        }
        if (what == 2) {
            return c.y;
        }
        return what == 3 ? c.kind : no(NO);
    }

    int cuts(int gate) {
        if (!has(gate)) {
            return no(BEYOND);
        }
        return cells.get(gate).sort != 2 ? no(KIND) : cells.get(gate).cuts.size();
    }

    int cut(int gate, int i) {
        if (!has(gate)) {
            no(BEYOND);
        } else if (cells.get(gate).sort != 2) {
            no(KIND);
        } else if (i < 0 || i >= cells.get(gate).cuts.size()) {
            no(BEYOND);
        } else {
            return asBits(cells.get(gate).cuts.get(i));
        }
        return 0;
    }

    int depth(int cell) {
        return has(cell) ? cells.get(cell).depth : no(BEYOND);
    }

    private void want(int cell) {
        if (cells.get(cell).sort == 2 && tables.add(cell)) {
            for (int c : cells.get(cell).cuts.get(0)) {
                want(c);
            }
        }
    }

    int tables() {
        tables = new TreeSet<>();
        for (int o : outs) {
            want(o);
        }
        for (Cell c : cells) {
            if (c.sort == 1) {
                want(c.source);
            }
        }
        return tables.size();
    }

    private List<Integer> lettersOf(int cell) {
        Cell c = cells.get(cell);
        if (c.sort == 0) {
            return List.of();
        }
        return c.sort == 1 ? List.of(c.source) : new ArrayList<>(c.cuts.get(0));
    }

    private boolean valueWhere(int cell, List<Integer> letters, int i) {
        int j = letters.indexOf(cell);
        if (j >= 0) {
            return (i >> j & 1) == 1;
        }
        Cell c = cells.get(cell);
        return joined(c, valueWhere(c.x / 2, letters, i), valueWhere(c.y / 2, letters, i));
    }

    private static boolean joined(Cell c, boolean xPlain, boolean yPlain) {
        boolean x = xPlain ^ c.x % 2 == 1;
        boolean y = yPlain ^ c.y % 2 == 1;
        return c.kind == 0 ? x && y : c.kind == 1 ? x || y : x != y;
    }

    private int bitsOf(int table) {
        int bits = 0;
        for (int i = 0; i < 16; i++) {
            bits += valueWhere(table, lettersOf(table), i) ? 1 << i : 0;
        }
        return bits;
    }

    int table(int gate, int what) {
        if (!has(gate)) {
            return no(BEYOND);
        }
        if (cells.get(gate).sort != 2) {
            return no(KIND);
        }
        if (tables == null || !tables.contains(gate)) {
            return no(MISSING);
        }
        List<Integer> letters = lettersOf(gate);
        if (what == 0) {
            return letters.size();
        }
        if (what == 1) {
            return bitsOf(gate);
        }
        if (what < 2 || what > 5) {
            return no(NO);
        }
        return what - 2 < letters.size() ? letters.get(what - 2) : NONE;
    }

    private int tiles() {
        return wide * high;
    }

    /** JOINTS by their two TILES. */
    private List<int[]> joints() {
        List<int[]> all = new ArrayList<>();
        for (int t = 0; t < tiles(); t++) {
            if (t % wide + 1 < wide) {
                all.add(new int[] {t, t + 1});
            }
        }
        for (int t = 0; t < tiles(); t++) {
            if (t / wide + 1 < high) {
                all.add(new int[] {t, t + wide});
            }
        }
        return all;
    }

    int cloth(int wide, int high, int room, int carry) {
        if (wide < 1 || wide > 6 || high < 1 || high > 6 || room < 1 || room > 4
                || carry < 1 || carry > 4) {
            return no(NO);
        }
        this.wide = wide;
        this.high = high;
        this.room = room;
        this.carry = carry;
        broken = new HashSet<>();
        clothChanged();
        return joints().size();
    }

    int broken(int tile, boolean is) {
        if (tile < 0 || tile >= tiles()) {
            return no(BEYOND);
        }
        boolean was = is ? !broken.add(tile) : broken.remove(tile);
        clothChanged();
        return was ? 1 : 0;
    }

    private boolean roomLeft(TreeMap<Integer, Integer> in, int tile) {
        int there = 0;
        for (int t : in.values()) {
            there += t == tile ? 1 : 0;
        }
        return !broken.contains(tile) && there < room;
    }

    int set() {
        if (tables == null) {
            return no(MISSING);
        }
        TreeMap<Integer, Integer> next = new TreeMap<>();
        for (int c = 0; c < cells.size(); c++) {
            if (cells.get(c).sort != 2 || tables.contains(c)) {
                int tile = 0;
                while (tile < tiles() && !roomLeft(next, tile)) {
                    tile++;
                }
                if (tile == tiles()) {
                    return no(FULL);
                }
                next.put(c, tile);
            }
        }
        placesChanged();
        places = next;
        return places.size();
    }

    private int wrongThing(int cell) {
        if (!has(cell)) {
            return BEYOND;
        }
        return places == null || !places.containsKey(cell) ? MISSING : 0;
    }

    int tile(int cell) {
        int wrong = wrongThing(cell);
        return wrong != 0 ? no(wrong) : places.get(cell);
    }

    int move(int cell, int tile) {
        if (!has(cell) || tile < 0 || tile >= tiles()) {
            return no(BEYOND);
        }
        if (wrongThing(cell) != 0) {
            return no(MISSING);
        }
        int before = places.get(cell);
        if (before == tile) {
            return before;
        }
        if (!roomLeft(places, tile)) {
            return no(FULL);
        }
        places.put(cell, tile);
        placesChanged();
        return before;
    }

    private void exchange(int a, int b) {
        int t = places.get(a);
        places.put(a, places.get(b));
        places.put(b, t);
    }

    int swap(int cell, int other) {
        int first = wrongThing(cell);
        int second = wrongThing(other);
        if (first == BEYOND || second == BEYOND) {
            return no(BEYOND);
        }
        if (first != 0 || second != 0) {
            return no(MISSING);
        }
        exchange(cell, other);
        placesChanged();
        return costNow();
    }

    int smooth(int n, long seed) {
        if (n < 0) {
            return no(BELOW);
        }
        if (n > 1000) {
            return no(NO);
        }
        if (places == null) {
            return no(MISSING);
        }
        placesChanged();
        List<Integer> things = new ArrayList<>(places.keySet());
        int did = 0;
        for (int k = 0; k < n && !things.isEmpty(); k++) {
            seed = seed * 6364136223846793005L + 1442695040888963407L;
            int a = things.get((int) ((seed >>> 33) % things.size()));
            seed = seed * 6364136223846793005L + 1442695040888963407L;
            int b = things.get((int) ((seed >>> 33) % things.size()));
            int before = costNow();
            exchange(a, b);
            if (costNow() <= before) {
                did++;
            } else {
                exchange(a, b);
            }
        }
        return did;
    }

    /** ENDS by the CELLS of WIRES. */
    private TreeMap<Integer, TreeSet<Integer>> ends() {
        TreeMap<Integer, TreeSet<Integer>> all = new TreeMap<>();
        for (int user : places.keySet()) {
            for (int letter : lettersOf(user)) {
                if (!places.get(letter).equals(places.get(user))) {
                    all.computeIfAbsent(letter, k -> new TreeSet<>()).add(places.get(user));
                }
            }
        }
        return all;
    }

    private int costNow() {
        TreeMap<Integer, TreeSet<Integer>> ends = ends();
        int sum = 0;
        for (int w : ends.keySet()) {
            TreeSet<Integer> columns = new TreeSet<>();
            TreeSet<Integer> rows = new TreeSet<>();
            TreeSet<Integer> touched = new TreeSet<>(ends.get(w));
            touched.add(places.get(w));
            for (int t : touched) {
                columns.add(t % wide);
                rows.add(t / wide);
            }
            sum += columns.last() - columns.first() + rows.last() - rows.first();
        }
        return sum;
    }

    int cost() {
        return places == null ? no(MISSING) : costNow();
    }

    int wires(int cell, int what) {
        if (what == 1 && !has(cell)) {
            return no(BEYOND);
        }
        if (places == null || (what == 1 && !places.containsKey(cell))) {
            return no(MISSING);
        }
        if (what == 0) {
            return ends().size();
        }
        return what == 1 ? ends().getOrDefault(cell, new TreeSet<>()).size() : no(NO);
    }

    private int loadOf(int joint) {
        int n = 0;
        for (TreeSet<Integer> way : ways.values()) {
            n += way.contains(joint) ? 1 : 0;
        }
        return n;
    }

    private int priceOf(int joint) {
        return (1 + past[joint]) * (1 + Math.max(0, loadOf(joint) + 1 - carry));
    }

    private int[] fromTree(Set<Integer> tree) {
        int[] far = new int[tiles()];
        Arrays.fill(far, 1 << 28);
        for (int t : tree) {
            far[t] = 0;
        }
        List<int[]> joints = joints();
        for (int k = 0; k < tiles(); k++) {
            for (int j = 0; j < joints.size(); j++) {
                int a = joints.get(j)[0];
                int b = joints.get(j)[1];
                int price = priceOf(j);
                far[a] = Math.min(far[a], far[b] + price);
                far[b] = Math.min(far[b], far[a] + price);
            }
        }
        return far;
    }

    private void leadWire(int wire, TreeSet<Integer> ends) {
        ways.put(wire, new TreeSet<>());
        Set<Integer> tree = new TreeSet<>(List.of(places.get(wire)));
        List<int[]> joints = joints();
        for (int end : ends) {
            if (tree.contains(end)) {
                continue;
            }
            int[] far = fromTree(tree);
            TreeSet<Integer> gone = new TreeSet<>();
            Set<Integer> met = new TreeSet<>();
            int at = end;
            while (!tree.contains(at)) {
                int from = Integer.MAX_VALUE;
                int over = NONE;
                for (int j = 0; j < joints.size(); j++) {
                    int a = joints.get(j)[0];
                    int b = joints.get(j)[1];
                    int other = a == at ? b : b == at ? a : NONE;
                    if (other != NONE && far[other] + priceOf(j) == far[at] && other < from) {
                        from = other;
                        over = j;
                    }
                }
                gone.add(over);
                met.add(at);
                at = from;
            }
            ways.get(wire).addAll(gone);
            tree.addAll(met);
        }
    }

    int lead(int n) {
        if (n < 0) {
            return no(BELOW);
        }
        if (n < 1 || n > 40) {
            return no(NO);
        }
        if (places == null) {
            return no(MISSING);
        }
        ways = new TreeMap<>();
        past = new int[60];
        TreeMap<Integer, TreeSet<Integer>> ends = ends();
        for (int turn = 1; turn <= n; turn++) {
            for (int wire : ends.keySet()) {
                leadWire(wire, ends.get(wire));
            }
            boolean led = true;
            for (int j = 0; j < joints().size(); j++) {
                int more = loadOf(j) - carry;
                if (more > 0) {
                    led = false;
                    past[j] += more;
                }
            }
            if (led) {
                return turn;
            }
        }
        return NONE;
    }

    private boolean isJoint(int joint) {
        return joint >= 0 && joint < joints().size();
    }

    int joint(int joint) {
        if (!isJoint(joint)) {
            return no(BEYOND);
        }
        return ways == null ? no(MISSING) : loadOf(joint);
    }

    int way(int cell, int i) {
        if (!has(cell)) {
            return no(BEYOND);
        }
        if (i < 0) {
            return no(BELOW);
        }
        if (ways == null || !places.containsKey(cell)) {
            return no(MISSING);
        }
        List<Integer> its = new ArrayList<>(ways.getOrDefault(cell, new TreeSet<>()));
        return i < its.size() ? its.get(i) : NONE;
    }

    int side(int joint, int what) {
        if (!isJoint(joint)) {
            return no(BEYOND);
        }
        if (what == 0 || what == 1) {
            return joints().get(joint)[what];
        }
        return what != 2 ? no(NO) : ways == null ? 0 : past[joint];
    }

    private int deepest(int tile, int from, Set<Integer> way, Set<Integer> ends) {
        int most = ends.contains(tile) ? 0 : -1000;
        for (int j : way) {
            int[] both = joints().get(j);
            int other = both[0] == tile ? both[1] : both[1] == tile ? both[0] : NONE;
            if (other != NONE && other != from) {
                most = Math.max(most, 1 + deepest(other, tile, way, ends));
            }
        }
        return most;
    }

    int longest() {
        if (ways == null) {
            return no(MISSING);
        }
        int most = 0;
        TreeMap<Integer, TreeSet<Integer>> ends = ends();
        for (int w : ends.keySet()) {
            most = Math.max(most, deepest(places.get(w), NONE, ways.get(w), ends.get(w)));
        }
        return most;
    }

    private int sumOf(int[] frame) {
        int sum = 255;
        for (int i = 0; i < frame.length - 1; i++) {
            sum -= frame[i];
        }
        return Math.floorMod(sum, 256);
    }

    int frames() {
        if (places == null) {
            return no(MISSING);
        }
        frames = new int[tiles()][];
        int all = 0;
        for (int t = 0; t < tiles(); t++) {
            List<Integer> bytes = new ArrayList<>();
            for (int c : places.keySet()) {
                if (places.get(c) == t) {
                    bytes.add(c);
                    bytes.add(cells.get(c).sort);
                    bytes.add(lettersOf(c).size());
                    bytes.addAll(lettersOf(c));
                    if (cells.get(c).sort == 2) {
                        bytes.add(bitsOf(c) % 256);
                        bytes.add(bitsOf(c) / 256);
                    }
                }
            }
            frames[t] = new int[bytes.size() + 1];
            for (int i = 0; i < bytes.size(); i++) {
                frames[t][i] = bytes.get(i);
            }
            frames[t][bytes.size()] = sumOf(frames[t]);
            all += frames[t].length;
        }
        begin();
        return all;
    }

    private int wrongByte(int tile, int i) {
        if (tile < 0 || tile >= tiles()) {
            return BEYOND;
        }
        if (frames == null) {
            return MISSING;
        }
        return i < 0 || i >= frames[tile].length ? BEYOND : 0;
    }

    /** No calls of the face: these two let random calls meet bytes that matter. */
    int tileOfTable(int dice) {
        if (places == null || tables.isEmpty()) {
            return 0;
        }
        List<Integer> all = new ArrayList<>(tables);
        return places.get(all.get(dice % all.size()));
    }

    int lengthOf(int tile) {
        boolean there = frames != null && tile >= 0 && tile < frames.length;
        return there ? frames[tile].length : 0;
    }

    int octet(int tile, int i) {
        int wrong = wrongByte(tile, i);
        return wrong != 0 ? no(wrong) : frames[tile][i];
    }

    int bend(int tile, int i, int mask) {
        int wrong = wrongByte(tile, i);
        if (wrong != 0) {
            return no(wrong);
        }
        if (mask < 1 || mask > 255) {
            return no(NO);
        }
        return frames[tile][i] ^= mask;
    }

    int check() {
        if (frames == null) {
            return no(MISSING);
        }
        for (int t = 0; t < tiles(); t++) {
            if (frames[t][frames[t].length - 1] != sumOf(frames[t])) {
                return t;
            }
        }
        return NONE;
    }

    /** The byte k behind the head of a THING, found by going through the TILE's THINGS. */
    private int byteOf(int thing, int k) {
        int at = 0;
        for (int c : places.keySet()) {
            if (places.get(c).equals(places.get(thing))) {
                if (c == thing) {
                    return frames[places.get(thing)][at + 3 + k];
                }
                at += 3 + lettersOf(c).size() + (cells.get(c).sort == 2 ? 2 : 0);
            }
        }
        throw new IllegalStateException("no such THING");
    }

    private int bitsThere(int table) {
        int letters = lettersOf(table).size();
        return byteOf(table, letters) + 256 * byteOf(table, letters + 1);
    }

    int back() {
        if (frames == null) {
            return no(MISSING);
        }
        int n = 0;
        for (int c : tables) {
            n += bitsThere(c) != bitsOf(c) ? 1 : 0;
        }
        return n;
    }

    int start() {
        begin();
        return frames == null ? 0 : 1;
    }

    private int outsOf(boolean[] values) {
        int bits = 0;
        for (int i = 0; i < outs.size(); i++) {
            bits += values[outs.get(i)] ? 1 << i : 0;
        }
        return bits;
    }

    private void putInputs(boolean[] values, int inputs) {
        int i = 0;
        for (int c = 0; c < cells.size(); c++) {
            if (cells.get(c).sort == 0) {
                values[c] = (inputs >> i & 1) == 1;
                i++;
            }
        }
    }

    private boolean[] keepersNext(boolean[] values, boolean ofCloth) {
        boolean[] next = values.clone();
        for (int c = 0; c < cells.size(); c++) {
            if (cells.get(c).sort == 1) {
                int letter = ofCloth ? byteOf(c, 0) : cells.get(c).source;
                next[c] = letter < 32 && values[letter];
            }
        }
        return next;
    }

    private void stepCloth(int inputs) {
        putInputs(clothValues, inputs);
        for (int c = 0; c < cells.size(); c++) {
            if (cells.get(c).sort == 2) {
                clothValues[c] = false;
            }
        }
        for (int c : tables) {
            int i = 0;
            for (int j = 0; j < lettersOf(c).size(); j++) {
                int letter = byteOf(c, j);
                i += letter < 32 && clothValues[letter] ? 1 << j : 0;
            }
            clothValues[c] = (bitsThere(c) >> i) % 2 == 1;
        }
        clothOuts = outsOf(clothValues);
        clothValues = keepersNext(clothValues, true);
    }

    int clock(int inputs) {
        if (inputs < 0 || inputs >= 1 << many(0)) {
            return no(BEYOND);
        }
        putInputs(netValues, inputs);
        for (int c = 0; c < cells.size(); c++) {
            Cell cell = cells.get(c);
            if (cell.sort == 2) {
                netValues[c] = joined(cell, netValues[cell.x / 2], netValues[cell.y / 2]);
            }
        }
        netOuts = outsOf(netValues);
        netValues = keepersNext(netValues, false);
        clocks++;
        if (frames != null) {
            stepCloth(inputs);
            if (differed == NONE && netOuts != clothOuts) {
                differed = clocks;
            }
        }
        return netOuts;
    }

    int told(int what) {
        if (what < 0 || what > 3) {
            return no(NO);
        }
        if ((what == 0 || what == 1) && clocks == 0) {
            return no(MISSING);
        }
        if ((what == 1 || what == 3) && frames == null) {
            return no(MISSING);
        }
        return what == 0 ? netOuts : what == 1 ? clothOuts : what == 2 ? clocks : differed;
    }

    int lay(int tile) {
        if (tile < 0 || tile >= tiles()) {
            return no(BEYOND);
        }
        if (frames == null) {
            return no(MISSING);
        }
        row = frames[tile].clone();
        return row.length;
    }

    int tear() {
        int was = row == null ? 0 : 1;
        row = null;
        return was;
    }

    int row(int i) {
        if (row == null) {
            return no(MISSING);
        }
        return i < 0 || i >= row.length ? no(BEYOND) : row[i];
    }

    int copy(int i, int j, int n) {
        if (row == null) {
            return no(MISSING);
        }
        if (n < 0) {
            return no(BELOW);
        }
        if (i < 0 || j < 0 || (long) i + n > row.length || (long) j + n > row.length) {
            return no(COPY);
        }
        int[] were = row.clone();
        for (int k = 0; k < n; k++) {
            row[j + k] = were[i + k];
        }
        return n;
    }

    int status(int by) {
        return by <= -2 && by >= -8 ? refused[-by] : no(NO);
    }
}
