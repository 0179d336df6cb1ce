/** Part 5 of the document: what each call takes away, and that a refused one takes nothing. */
public final class ChangesTest {
    private static final Due DUE = new Due("ChangesTest");
    private static final String ALL = "TPWFC";

    /** A call on an object that has everything. */
    private interface Call {
        int on(ClothMaker x);
    }

    public static void main(String[] args) {
        netChanges();
        clothChanges();
        placeChanges();
        whatTakesNothing();
        whatBegins();
        refusedCalls();
        netRunGoesOn();
        fullNetKeepsAll();
        DUE.end();
    }

    /** KEEPER 0, INPUTS 1 and 2, GATE 3 (no TABLE), TABLE 4 (the SOURCE of 0); OUTS 4 and 1. */
    private static ClothMaker withAll() {
        ClothMaker x = new ClothMaker();
        x.keeper(true);
        x.input();
        x.input();
        x.gate(0, 2, 4);
        x.gate(2, 0, 6);
        x.source(0, 4);
        x.out(4);
        x.out(1);
        x.tables();
        x.set();
        x.lead(3);
        x.frames();
        x.clock(1);
        x.clock(3);
        return x;
    }

    /** T: TABLES, P: places, W: ways, F: FRAMES, C: CLOCKS since the beginning. */
    private static String stateOf(ClothMaker x) {
        String state = "";
        state += x.table(4, 0) >= 0 ? 'T' : '-';
        state += x.tile(0) >= 0 ? 'P' : '-';
        state += x.joint(0) >= 0 ? 'W' : '-';
        state += x.octet(0, 0) >= 0 ? 'F' : '-';
        state += x.told(2) > 0 ? 'C' : '-';
        return state;
    }

    private static void leaves(String name, Call call, String due) {
        ClothMaker x = withAll();
        DUE.holds(name + ": all is there before", stateOf(x).equals(ALL));
        int got = call.on(x);
        DUE.holds(name + " is not refused", got >= ClothMaker.NONE);
        String state = stateOf(x);
        DUE.holds(name + " leaves " + state + ", due is " + due, state.equals(due));
    }

    private static void netChanges() {
        leaves("input", x -> x.input(), "-----");
        leaves("keeper", x -> x.keeper(false), "-----");
        leaves("gate", x -> x.gate(0, 0, 0), "-----");
        leaves("source", x -> x.source(0, 1), "-----");
        leaves("out", x -> x.out(0), "-----");
        ClothMaker x = withAll();
        x.input();
        DUE.same("34: nothing is told", x.told(0), ClothMaker.MISSING);
        DUE.same("33: KEEPERS as at first", x.clock(0), 1);
    }

    private static void clothChanges() {
        leaves("cloth", x -> x.cloth(4, 4, 2, 2), "T---C");
        leaves("cloth as it is", x -> x.cloth(3, 3, 2, 2), "T---C");
        leaves("broken", x -> x.broken(8, true), "T---C");
        leaves("broken as it is", x -> x.broken(8, false), "T---C");
    }

    private static void placeChanges() {
        leaves("set", x -> x.set(), "TP--C");
        leaves("swap", x -> x.swap(0, 2), "TP--C");
        leaves("swap with itself", x -> x.swap(0, 0), "TP--C");
        leaves("smooth", x -> x.smooth(9, 1L), "TP--C");
        leaves("smooth without tries", x -> x.smooth(0, 1L), "TP--C");
        leaves("move", x -> x.move(0, 8), "TP--C");
    }

    private static void whatTakesNothing() {
        leaves("move to its own", x -> x.move(0, 0), ALL);
        leaves("tables", x -> x.tables(), ALL);
        leaves("lead", x -> x.lead(1), ALL);
        leaves("bend", x -> x.bend(0, 0, 255), ALL);
        leaves("check", x -> x.check(), ALL);
        leaves("back", x -> x.back(), ALL);
        leaves("clock", x -> x.clock(2), ALL);
        leaves("longest", x -> x.longest(), ALL);
        leaves("lay", x -> x.lay(0), ALL);
        leaves("tear", x -> x.tear(), ALL);
    }

    private static void whatBegins() {
        leaves("frames", x -> x.frames(), "TPWF-");
        leaves("start", x -> x.start(), "TPWF-");
    }

    private static void isRefused(String name, Call call, int by) {
        ClothMaker x = withAll();
        DUE.same(name, call.on(x), by);
        DUE.same(name + " is counted", x.status(by), 1);
        DUE.holds(name + " takes nothing", stateOf(x).equals(ALL));
        DUE.same(name + " leaves what was told", x.told(0), 2);
        DUE.same(name + " leaves THE CLOTH", x.told(1), 2);
    }

    private static void refusedCalls() {
        isRefused("gate", x -> x.gate(3, 0, 0), ClothMaker.NO);
        isRefused("source", x -> x.source(1, 0), ClothMaker.KIND);
        isRefused("out", x -> x.out(5), ClothMaker.BEYOND);
        isRefused("cloth", x -> x.cloth(3, 3, 5, 2), ClothMaker.NO);
        isRefused("broken", x -> x.broken(9, true), ClothMaker.BEYOND);
        isRefused("move", x -> x.move(3, 0), ClothMaker.MISSING);
        isRefused("move into a full TILE", x -> x.move(2, 0), ClothMaker.FULL);
        isRefused("swap", x -> x.swap(0, 3), ClothMaker.MISSING);
        isRefused("smooth", x -> x.smooth(-1, 0L), ClothMaker.BELOW);
        isRefused("lead", x -> x.lead(0), ClothMaker.NO);
        isRefused("bend", x -> x.bend(0, 0, 0), ClothMaker.NO);
        isRefused("clock", x -> x.clock(4), ClothMaker.BEYOND);
    }

    private static void netRunGoesOn() {
        ClothMaker x = withAll();
        int told = x.told(0);
        x.cloth(2, 2, 2, 2);
        DUE.same("34: as it was told", x.told(0), told);
        DUE.same("34: THE CLOTH is not there", x.told(1), ClothMaker.MISSING);
        DUE.same("33: KEEPER 0 is 0 by now", x.clock(0), 0);
        DUE.same("34: the third CLOCK", x.told(2), 3);
    }

    private static void fullNetKeepsAll() {
        ClothMaker x = new ClothMaker();
        for (int k = 0; k < 6; k++) {
            x.input();
            x.keeper(true);
        }
        for (int k = 0; k < 8; k++) {
            x.out(k);
        }
        x.tables();
        x.set();
        DUE.same("2: FULL", x.input(), ClothMaker.FULL);
        DUE.same("3: FULL", x.keeper(true), ClothMaker.FULL);
        DUE.same("6: FULL", x.out(0), ClothMaker.FULL);
        DUE.same("16: all are SET still", x.tile(11), 5);
    }
}
