import java.util.Random;

/** Random runs of calls, all answers set beside those of PlainCloth; every promise has its calls. */
public final class BesideModelTest {
    private static final int RUNS = 1000;
    private static final int CALLS = 512;
    /** The most calls of one round(). */
    private static final int ROUND_CALLS = 74;

    private final Due due;
    private final Random random;
    private final String run;
    private final ClothMaker maker = new ClothMaker();
    private final PlainCloth plain = new PlainCloth();
    private int calls;
    private int cells;
    private int tiles = 9;

    private BesideModelTest(Due due, long seed) {
        this.due = due;
        this.random = new Random(seed);
        this.run = "run " + seed + ": ";
    }

    public static void main(String[] args) {
        Due due = new Due("BesideModelTest");
        for (long seed = 1; seed <= RUNS && !due.hasWrong(); seed++) {
            new BesideModelTest(due, seed).go();
        }
        due.end();
    }

    private void go() {
        buildNet();
        while (calls + ROUND_CALLS <= CALLS && !due.hasWrong()) {
            round();
        }
    }

    private void buildNet() {
        int plainCells = random.nextInt(13);
        int wanted = random.nextInt(3) == 0 ? random.nextInt(33) : 20 + random.nextInt(13);
        for (int k = 0; k < 80 && cells < wanted; k++) {
            growCell(cells < plainCells ? random.nextInt(5) : random.nextInt(30));
        }
        for (int k = random.nextInt(9); k > 0; k--) {
            growOut();
        }
        for (int c = 0; c < cells; c++) {
            int sort = maker.cell(c, 0);
            same("cell(" + c + ", 0)", sort, plain.cell(c, 0));
            if (sort == 1 && random.nextInt(5) != 0) {
                growSource(c);
            }
        }
    }

    /** As the calls are meant to follow one another, with others strewn in between. */
    private void round() {
        if (random.nextInt(3) == 0) {
            growAny();
        }
        if (random.nextInt(2) == 0) {
            changeCloth();
        }
        same("tables()", maker.tables(), plain.tables());
        some(5, 0);
        same("set()", maker.set(), plain.set());
        some(6, 1);
        if (random.nextInt(3) != 0) {
            lead();
            some(10, 2);
        }
        some(3, 1);
        if (random.nextInt(4) != 0) {
            same("frames()", maker.frames(), plain.frames());
            some(40, 3);
        }
        some(4, 4);
    }

    private void some(int most, int group) {
        for (int k = random.nextInt(most + 1); k > 0 && !due.hasWrong(); k--) {
            boolean strange = random.nextInt(60) == 0;
            ask(strange || group == 4 ? random.nextInt(6) : group == 3 ? 3 + random.nextInt(3) : group);
        }
    }

    private void ask(int group) {
        switch (group) {
            case 0:
                ofCones();
                break;
            case 1:
                ofPlaces();
                break;
            case 2:
                ofWays();
                break;
            case 3:
                ofFrames();
                break;
            case 4:
                ofRuns();
                break;
            default:
                ofRows();
                break;
        }
    }

    private void same(String call, int got, int want) {
        calls++;
        due.same(run + call, got, want);
    }

    private int upTo(int bound) {
        int dice = random.nextInt(40);
        if (dice == 0) {
            return -1 - random.nextInt(3);
        }
        if (dice == 1) {
            return bound + random.nextInt(3);
        }
        if (dice == 2) {
            return random.nextInt(2) == 0 ? Integer.MIN_VALUE : Integer.MAX_VALUE;
        }
        return bound <= 0 ? 0 : random.nextInt(bound);
    }

    private void growAny() {
        int dice = random.nextInt(4);
        if (dice == 0) {
            growOut();
        } else if (dice == 1) {
            growSource(upTo(cells));
        } else {
            growCell(random.nextInt(20));
        }
    }

    private void growCell(int dice) {
        int got;
        if (dice < 3) {
            got = maker.input();
            same("input()", got, plain.input());
        } else if (dice < 5) {
            boolean first = random.nextBoolean();
            got = maker.keeper(first);
            same("keeper(" + first + ")", got, plain.keeper(first));
        } else {
            int kind = upTo(3);
            int x = sign();
            int y = sign();
            got = maker.gate(kind, x, y);
            same("gate(" + kind + ", " + x + ", " + y + ")", got, plain.gate(kind, x, y));
        }
        cells = Math.max(cells, got + 1);
    }

    /** Mostly of late CELLS, so that nets get deep. */
    private int sign() {
        int near = random.nextInt(3) == 0 ? 2 * cells : Math.min(2 * cells, 10);
        return random.nextInt(4) == 0 ? upTo(2 * cells) : 2 * cells - 1 - upTo(near);
    }

    private void growOut() {
        int c = random.nextInt(2) == 0 ? cells - 1 : upTo(cells);
        same("out(" + c + ")", maker.out(c), plain.out(c));
    }

    private void growSource(int keeper) {
        int c = upTo(cells);
        same("source(" + keeper + ", " + c + ")", maker.source(keeper, c), plain.source(keeper, c));
    }

    private void changeCloth() {
        if (random.nextInt(2) == 0) {
            int w = 1 + upTo(6);
            int h = 1 + upTo(6);
            int r = 1 + upTo(4);
            int k = 1 + upTo(4);
            int got = maker.cloth(w, h, r, k);
            tiles = got >= 0 ? w * h : tiles;
            same("cloth(" + w + ", " + h + ", " + r + ", " + k + ")", got, plain.cloth(w, h, r, k));
        } else {
            int t = upTo(tiles);
            boolean is = random.nextBoolean();
            same("broken(" + t + ", " + is + ")", maker.broken(t, is), plain.broken(t, is));
        }
    }

    private void ofCones() {
        int c = upTo(cells);
        int i = random.nextInt(4) == 0 ? upTo(41) : upTo(6);
        switch (random.nextInt(6)) {
            case 0:
                same("cell(" + c + ", " + i + ")", maker.cell(c, i), plain.cell(c, i));
                break;
            case 1:
                same("cuts(" + c + ")", maker.cuts(c), plain.cuts(c));
                break;
            case 2:
                same("cut(" + c + ", " + i + ")", maker.cut(c, i), plain.cut(c, i));
                break;
            case 3:
                same("depth(" + c + ")", maker.depth(c), plain.depth(c));
                break;
            case 4:
                same("table(" + c + ", " + i + ")", maker.table(c, i), plain.table(c, i));
                break;
            default:
                same("tables()", maker.tables(), plain.tables());
                break;
        }
    }

    private void ofPlaces() {
        int c = upTo(cells);
        switch (random.nextInt(7)) {
            case 0:
                same("tile(" + c + ")", maker.tile(c), plain.tile(c));
                break;
            case 1:
                int t = upTo(tiles);
                same("move(" + c + ", " + t + ")", maker.move(c, t), plain.move(c, t));
                break;
            case 2:
                int o = upTo(cells);
                same("swap(" + c + ", " + o + ")", maker.swap(c, o), plain.swap(c, o));
                break;
            case 3:
                int n = random.nextInt(8) == 0 ? upTo(1001) : upTo(20);
                long seed = random.nextLong();
                same("smooth(" + n + ", " + seed + ")", maker.smooth(n, seed), plain.smooth(n, seed));
                break;
            case 4:
                same("cost()", maker.cost(), plain.cost());
                break;
            default:
                int what = upTo(2);
                same("wires(" + c + ", " + what + ")", maker.wires(c, what), plain.wires(c, what));
                break;
        }
    }

    private void lead() {
        int n = upTo(random.nextInt(3) == 0 ? 41 : 5);
        same("lead(" + n + ")", maker.lead(n), plain.lead(n));
    }

    private void ofWays() {
        int j = upTo(2 * tiles);
        int dice = random.nextInt(9);
        if (dice == 0) {
            lead();
        } else if (dice < 3) {
            same("joint(" + j + ")", maker.joint(j), plain.joint(j));
        } else if (dice < 6) {
            int c = upTo(cells);
            int i = upTo(4);
            same("way(" + c + ", " + i + ")", maker.way(c, i), plain.way(c, i));
        } else if (dice < 8) {
            int what = upTo(3);
            same("side(" + j + ", " + what + ")", maker.side(j, what), plain.side(j, what));
        } else {
            same("longest()", maker.longest(), plain.longest());
        }
    }

    private void ofFrames() {
        int t = random.nextBoolean() ? upTo(tiles) : plain.tileOfTable(random.nextInt(32));
        int i = upTo(plain.lengthOf(t));
        switch (random.nextInt(20)) {
            case 0:
                same("frames()", maker.frames(), plain.frames());
                break;
            case 1:
                same("start()", maker.start(), plain.start());
                break;
            case 2:
            case 3:
            case 4:
            case 5:
            case 6:
            case 7:
                same("octet(" + t + ", " + i + ")", maker.octet(t, i), plain.octet(t, i));
                break;
            case 8:
            case 9:
            case 10:
            case 11:
            case 12:
            case 13:
                int mask = random.nextInt(8) == 0 ? upTo(258) : 1 << random.nextInt(8);
                int got = maker.bend(t, i, mask);
                same("bend(" + t + ", " + i + ", " + mask + ")", got, plain.bend(t, i, mask));
                break;
            case 14:
            case 15:
            case 16:
                same("check()", maker.check(), plain.check());
                break;
            default:
                same("back()", maker.back(), plain.back());
                break;
        }
    }

    private void ofRuns() {
        if (random.nextInt(3) == 0) {
            int what = upTo(4);
            same("told(" + what + ")", maker.told(what), plain.told(what));
        } else {
            int inputs = upTo(random.nextInt(8) == 0 ? 64 : 1 << random.nextInt(4));
            same("clock(" + inputs + ")", maker.clock(inputs), plain.clock(inputs));
        }
    }

    private void ofRows() {
        int i = upTo(12);
        switch (random.nextInt(5)) {
            case 0:
                int t = random.nextBoolean() ? upTo(tiles) : plain.tileOfTable(random.nextInt(32));
                same("lay(" + t + ")", maker.lay(t), plain.lay(t));
                break;
            case 1:
                if (random.nextInt(6) == 0) {
                    same("tear()", maker.tear(), plain.tear());
                }
                break;
            case 2:
                same("row(" + i + ")", maker.row(i), plain.row(i));
                break;
            case 3:
                int j = upTo(12);
                int n = upTo(8);
                String call = "copy(" + i + ", " + j + ", " + n + ")";
                same(call, maker.copy(i, j, n), plain.copy(i, j, n));
                break;
            default:
                int by = -2 - upTo(7);
                same("status(" + by + ")", maker.status(by), plain.status(by));
                break;
        }
    }
}
