import java.util.Random;

/** Random runs of calls, all answers set beside those of PlainCloth; every promise has its calls. */
public final class BesideModelTest {
    private static final int RUNS = 1500;
    private static final int CALLS = 512;

    private final Due due;
    private final Random random;
    private final String run;
    private final ClothMaker maker = new ClothMaker();
    private final PlainCloth plain = new PlainCloth();
    private int cells;
    private int tiles = 9;

    private BesideModelTest(Due due, long seed) {
        this.due = due;
        this.random = new Random(seed);
        this.run = "run " + seed + ": ";
    }

    public static void main(String[] args) {
        Due due = new Due("BesideModelTest");
        for (long seed = 1; seed <= RUNS && !due.hasWrong(); seed++) {
            new BesideModelTest(due, seed).go();
        }
        due.end();
    }

    private void go() {
        int calls = 0;
        int wantedCells = random.nextInt(34);
        int keepTo = 120 + random.nextInt(200);
        while (calls < CALLS && !due.hasWrong()) {
            if (cells < wantedCells && random.nextInt(8) != 0) {
                grow();
            } else if (random.nextInt(keepTo) == 0) {
                grow();
            } else {
                other();
            }
            calls++;
        }
    }

    private void same(String call, int got, int want) {
        due.same(run + call, got, want);
    }

    private int upTo(int bound) {
        int dice = random.nextInt(40);
        if (dice == 0) {
            return -1 - random.nextInt(3);
        }
        if (dice == 1) {
            return bound + random.nextInt(3);
        }
        if (dice == 2) {
            return random.nextInt(2) == 0 ? Integer.MIN_VALUE : Integer.MAX_VALUE;
        }
        return bound <= 0 ? 0 : random.nextInt(bound);
    }

    private void grow() {
        int dice = random.nextInt(20);
        if (dice < 3) {
            int got = maker.input();
            cells = Math.max(cells, got + 1);
            same("input()", got, plain.input());
        } else if (dice < 6) {
            boolean first = random.nextBoolean();
            int got = maker.keeper(first);
            cells = Math.max(cells, got + 1);
            same("keeper(" + first + ")", got, plain.keeper(first));
        } else if (dice < 16) {
            growGate();
        } else if (dice < 18) {
            int k = upTo(cells);
            int c = upTo(cells);
            same("source(" + k + ", " + c + ")", maker.source(k, c), plain.source(k, c));
        } else {
            int c = random.nextInt(2) == 0 ? cells - 1 : upTo(cells);
            same("out(" + c + ")", maker.out(c), plain.out(c));
        }
    }

    private void growGate() {
        int kind = upTo(3);
        int back = random.nextBoolean() ? 2 * cells : Math.min(2 * cells, 12);
        int x = random.nextInt(3) == 0 ? upTo(2 * cells) : 2 * cells - 1 - upTo(back);
        int y = random.nextInt(3) == 0 ? upTo(2 * cells) : 2 * cells - 1 - upTo(back);
        int got = maker.gate(kind, x, y);
        cells = Math.max(cells, got + 1);
        same("gate(" + kind + ", " + x + ", " + y + ")", got, plain.gate(kind, x, y));
    }

    private void other() {
        switch (random.nextInt(9)) {
            case 0:
                ofCones();
                break;
            case 1:
                ofCloth();
                break;
            case 2:
            case 3:
                ofPlaces();
                break;
            case 4:
                ofWays();
                break;
            case 5:
                ofFrames();
                break;
            case 6:
            case 7:
                ofRuns();
                break;
            default:
                ofRows();
                break;
        }
    }

    private void ofCones() {
        int c = upTo(cells);
        int i = random.nextInt(4) == 0 ? upTo(41) : upTo(6);
        switch (random.nextInt(6)) {
            case 0:
                same("cell(" + c + ", " + i + ")", maker.cell(c, i), plain.cell(c, i));
                break;
            case 1:
                same("cuts(" + c + ")", maker.cuts(c), plain.cuts(c));
                break;
            case 2:
                same("cut(" + c + ", " + i + ")", maker.cut(c, i), plain.cut(c, i));
                break;
            case 3:
                same("depth(" + c + ")", maker.depth(c), plain.depth(c));
                break;
            case 4:
                same("table(" + c + ", " + i + ")", maker.table(c, i), plain.table(c, i));
                break;
            default:
                same("tables()", maker.tables(), plain.tables());
                break;
        }
    }

    private void ofCloth() {
        if (random.nextInt(12) == 0) {
            int w = 1 + upTo(6);
            int h = 1 + upTo(6);
            int r = 1 + upTo(4);
            int k = 1 + upTo(4);
            int got = maker.cloth(w, h, r, k);
            tiles = got >= 0 ? w * h : tiles;
            same("cloth(" + w + ", " + h + ", " + r + ", " + k + ")", got, plain.cloth(w, h, r, k));
        } else if (random.nextInt(12) == 0) {
            int t = upTo(tiles);
            boolean is = random.nextBoolean();
            same("broken(" + t + ", " + is + ")", maker.broken(t, is), plain.broken(t, is));
        } else {
            same("tables()", maker.tables(), plain.tables());
            same("set()", maker.set(), plain.set());
        }
    }

    private void ofPlaces() {
        int c = upTo(cells);
        switch (random.nextInt(7)) {
            case 0:
                same("tile(" + c + ")", maker.tile(c), plain.tile(c));
                break;
            case 1:
                int t = upTo(tiles);
                same("move(" + c + ", " + t + ")", maker.move(c, t), plain.move(c, t));
                break;
            case 2:
                int o = upTo(cells);
                same("swap(" + c + ", " + o + ")", maker.swap(c, o), plain.swap(c, o));
                break;
            case 3:
                int n = random.nextInt(8) == 0 ? upTo(1001) : upTo(20);
                long seed = random.nextLong();
                same("smooth(" + n + ", " + seed + ")", maker.smooth(n, seed), plain.smooth(n, seed));
                break;
            case 4:
                same("cost()", maker.cost(), plain.cost());
                break;
            default:
                int what = upTo(2);
                same("wires(" + c + ", " + what + ")", maker.wires(c, what), plain.wires(c, what));
                break;
        }
    }

    private void ofWays() {
        int j = upTo(2 * tiles);
        int dice = random.nextInt(6);
        if (dice == 0) {
            int n = upTo(random.nextInt(6) == 0 ? 41 : 5);
            same("lead(" + n + ")", maker.lead(n), plain.lead(n));
            for (int k = 0; k < 5; k++) {
                askWays(upTo(2 * tiles), random.nextInt(4));
            }
        } else {
            askWays(j, dice - 1);
        }
    }

    private void askWays(int j, int dice) {
        if (dice == 0) {
            same("joint(" + j + ")", maker.joint(j), plain.joint(j));
        } else if (dice == 1) {
            int c = upTo(cells);
            int i = upTo(4);
            same("way(" + c + ", " + i + ")", maker.way(c, i), plain.way(c, i));
        } else if (dice == 2) {
            int what = upTo(3);
            same("side(" + j + ", " + what + ")", maker.side(j, what), plain.side(j, what));
        } else {
            same("longest()", maker.longest(), plain.longest());
        }
    }

    private void ofFrames() {
        int t = upTo(tiles);
        int i = upTo(random.nextInt(3) == 0 ? 37 : 9);
        switch (random.nextInt(6)) {
            case 0:
                same("frames()", maker.frames(), plain.frames());
                break;
            case 1:
                same("octet(" + t + ", " + i + ")", maker.octet(t, i), plain.octet(t, i));
                break;
            case 2:
                int mask = random.nextInt(8) == 0 ? upTo(258) : 1 << random.nextInt(8);
                int got = maker.bend(t, i, mask);
                same("bend(" + t + ", " + i + ", " + mask + ")", got, plain.bend(t, i, mask));
                break;
            case 3:
                same("check()", maker.check(), plain.check());
                break;
            case 4:
                same("back()", maker.back(), plain.back());
                break;
            default:
                same("start()", maker.start(), plain.start());
                break;
        }
    }

    private void ofRuns() {
        if (random.nextInt(4) == 0) {
            int what = upTo(4);
            same("told(" + what + ")", maker.told(what), plain.told(what));
        } else {
            int inputs = random.nextInt(4) == 0 ? upTo(64) : upTo(8);
            same("clock(" + inputs + ")", maker.clock(inputs), plain.clock(inputs));
        }
    }

    private void ofRows() {
        int i = upTo(12);
        switch (random.nextInt(5)) {
            case 0:
                int t = upTo(tiles);
                same("lay(" + t + ")", maker.lay(t), plain.lay(t));
                break;
            case 1:
                if (random.nextInt(5) == 0) {
                    same("tear()", maker.tear(), plain.tear());
                }
                break;
            case 2:
                same("row(" + i + ")", maker.row(i), plain.row(i));
                break;
            case 3:
                int j = upTo(12);
                int n = upTo(8);
                String call = "copy(" + i + ", " + j + ", " + n + ")";
                same(call, maker.copy(i, j, n), plain.copy(i, j, n));
                break;
            default:
                int by = -2 - upTo(7);
                same("status(" + by + ")", maker.status(by), plain.status(by));
                break;
        }
    }
}
