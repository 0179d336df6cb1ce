import java.util.List;

/**
 * Each refusal of each call, and which of several comes first: the answer, that status() counts it
 * and no other, and that nothing else can be seen to have changed.
 */
public final class RefusedTest {
    private static final Due DUE = new Due("RefusedTest");
    private static final int MISSING = ClothMaker.MISSING;
    private static final int BEYOND = ClothMaker.BEYOND;
    private static final int BELOW = ClothMaker.BELOW;
    private static final int KIND = ClothMaker.KIND;
    private static final int COPY = ClothMaker.COPY;
    private static final int NO = ClothMaker.NO;
    private static final int FULL = ClothMaker.FULL;

    public static void main(String[] args) {
        plainCells();
        gates();
        sourcesAndOuts();
        cells();
        cuts();
        tables();
        cloths();
        sets();
        tiles();
        moves();
        swaps();
        smooths();
        costAndWires();
        leads();
        joints();
        ways();
        sides();
        frames();
        octets();
        bends();
        checks();
        clocks();
        tolds();
        lays();
        rows();
        copies();
        statuses();
        DUE.end();
    }

    private static void refused(Stage stage, int by, String... calls) {
        for (String call : calls) {
            String what = stage + ": " + call;
            int due = call.startsWith("cut(") ? 0 : by;
            DUE.same(what, Calls.ask(stage.make(), call), due);
            isCounted(what, stage, by, call);
            for (Sight sight : Sight.values()) {
                ClothMaker asked = stage.make();
                Calls.ask(asked, call);
                List<Integer> seen = sight.of(asked);
                DUE.holds(what + " changed " + sight, seen.equals(sight.of(stage.make())));
            }
        }
    }

    private static void isCounted(String what, Stage stage, int by, String call) {
        ClothMaker asked = stage.make();
        ClothMaker other = stage.make();
        Calls.ask(asked, call);
        for (int k = FULL; k <= MISSING; k++) {
            int more = k == by ? 1 : 0;
            DUE.same(what + " in status(" + k + ")", asked.status(k), other.status(k) + more);
        }
    }

    /** 2, 3: "FULL: CELLS, INPUTS"; "FULL". */
    private static void plainCells() {
        refused(Stage.INPUTS_FULL, FULL, "input()");
        refused(Stage.KEEPERS_FULL, FULL, "keeper(true)", "keeper(false)");
        refused(Stage.CELLS_FULL, FULL, "input()", "keeper(true)", "keeper(false)");
        refused(Stage.CROWDED, FULL, "input()", "keeper(true)", "keeper(false)");
    }

    /** 4: "NO: another kind; BEYOND: a SIGN of no CELL; FULL". */
    private static void gates() {
        refused(Stage.NEW, NO, "gate(-1, 0, 0)", "gate(3, 0, 0)", "gate(3, -1, -1)");
        refused(Stage.NEW, BEYOND, "gate(0, 0, 0)", "gate(1, 0, 1)", "gate(2, 1, 1)");
        refused(Stage.LAID, NO, "gate(-1, 0, 0)", "gate(3, 0, 0)", "gate(MAX, 0, 0)",
            "gate(MIN, 0, 0)", "gate(3, 10, 0)", "gate(-1, 0, -1)");
        refused(Stage.LAID, BEYOND, "gate(0, -1, 0)", "gate(1, 0, -1)", "gate(2, 10, 0)",
            "gate(0, 0, 10)", "gate(0, MAX, 0)", "gate(0, 0, MAX)", "gate(0, MIN, 0)",
            "gate(0, 0, MIN)", "gate(0, -2, -2)");
        refused(Stage.CELLS_FULL, NO, "gate(3, 0, 0)", "gate(-1, 64, 0)");
        refused(Stage.CELLS_FULL, BEYOND, "gate(0, 64, 0)", "gate(0, 0, 64)", "gate(0, -1, 0)");
        refused(Stage.CELLS_FULL, FULL, "gate(0, 0, 0)", "gate(1, 63, 62)", "gate(2, 63, 63)");
    }

    /** 5: "BEYOND (either), KIND: no KEEPER"; 6: "BEYOND, FULL". */
    private static void sourcesAndOuts() {
        refused(Stage.NEW, BEYOND, "source(0, 0)");
        refused(Stage.LAID, BEYOND, "source(-1, 0)", "source(5, 0)", "source(0, -1)",
            "source(0, 5)", "source(MAX, 0)", "source(MIN, 0)", "source(0, MAX)", "source(0, MIN)");
        refused(Stage.LAID, BEYOND, "source(1, 5)", "source(3, -1)", "source(5, 1)");
        refused(Stage.LAID, KIND, "source(1, 0)", "source(2, 2)", "source(3, 0)", "source(4, 4)");
        refused(Stage.NEW, BEYOND, "out(0)");
        refused(Stage.LAID, BEYOND, "out(-1)", "out(5)", "out(MAX)", "out(MIN)");
        refused(Stage.OUTS_FULL, BEYOND, "out(5)", "out(-1)");
        refused(Stage.OUTS_FULL, FULL, "out(0)", "out(4)");
        refused(Stage.CROWDED, BEYOND, "out(32)");
        refused(Stage.CROWDED, FULL, "out(31)", "out(0)");
    }

    /** 7: "BEYOND, NO"; 10: "BEYOND". */
    private static void cells() {
        refused(Stage.NEW, BEYOND, "cell(0, 0)", "cell(0, 4)", "depth(0)");
        refused(Stage.LAID, BEYOND, "cell(-1, 0)", "cell(5, 3)", "cell(5, 4)", "cell(-1, -1)",
            "cell(MAX, 0)", "cell(MIN, 0)");
        refused(Stage.LAID, NO, "cell(0, -1)", "cell(1, 4)", "cell(3, MAX)", "cell(4, MIN)");
        refused(Stage.CROWDED, BEYOND, "cell(32, 0)", "depth(32)");
        refused(Stage.LAID, BEYOND, "depth(-1)", "depth(5)", "depth(MAX)", "depth(MIN)");
    }

    /** 8: "BEYOND, KIND: no GATE"; 9: "BEYOND (the CELL), KIND, BEYOND (i): 0". */
    private static void cuts() {
        refused(Stage.NEW, BEYOND, "cuts(0)", "cut(0, 0)", "cut(0, -1)");
        refused(Stage.LAID, BEYOND, "cuts(-1)", "cuts(5)", "cuts(MAX)", "cuts(MIN)");
        refused(Stage.LAID, KIND, "cuts(0)", "cuts(1)");
        refused(Stage.LAID, BEYOND, "cut(-1, 0)", "cut(5, 0)", "cut(MAX, 0)", "cut(MIN, 0)");
        refused(Stage.LAID, KIND, "cut(0, 0)", "cut(1, -1)", "cut(2, 40)");
        refused(Stage.LAID, BEYOND, "cut(3, -1)", "cut(3, 1)", "cut(4, 2)", "cut(4, MAX)",
            "cut(4, MIN)");
    }

    /** 12: "BEYOND, KIND; MISSING: TABLES were not found, or it is none; NO". */
    private static void tables() {
        refused(Stage.NEW, BEYOND, "table(0, 0)", "table(0, 6)");
        refused(Stage.NET, BEYOND, "table(-1, 0)", "table(5, 0)", "table(5, 6)");
        refused(Stage.NET, KIND, "table(0, 0)", "table(1, 6)");
        refused(Stage.NET, MISSING, "table(4, 0)", "table(3, 1)", "table(4, 6)", "table(4, -1)");
        refused(Stage.FOUND, BEYOND, "table(5, -1)");
        refused(Stage.FOUND, KIND, "table(2, 0)", "table(0, -1)");
        refused(Stage.FOUND, MISSING, "table(3, 0)", "table(3, 5)", "table(3, 6)", "table(3, -1)");
        refused(Stage.FOUND, NO, "table(4, -1)", "table(4, 6)", "table(4, MAX)", "table(4, MIN)");
        refused(Stage.LAID, MISSING, "table(3, 0)");
        refused(Stage.LAID, NO, "table(4, 6)");
    }

    /** 13: "NO" of WIDE, HIGH (1 .. 6), ROOM, what JOINTS carry (1 .. 4); 14: "BEYOND". */
    private static void cloths() {
        refused(Stage.NEW, NO, "cloth(0, 3, 2, 2)", "cloth(7, 3, 2, 2)");
        refused(Stage.LAID, NO, "cloth(0, 1, 1, 1)", "cloth(7, 1, 1, 1)", "cloth(1, 0, 1, 1)",
            "cloth(1, 7, 1, 1)", "cloth(1, 1, 0, 1)", "cloth(1, 1, 5, 1)", "cloth(1, 1, 1, 0)",
            "cloth(1, 1, 1, 5)", "cloth(6, 6, 4, 5)", "cloth(6, 6, 5, 4)", "cloth(6, 7, 4, 4)",
            "cloth(7, 6, 4, 4)", "cloth(-1, -1, 1, 1)", "cloth(-1, 1, 1, 1)", "cloth(1, -1, 1, 1)",
            "cloth(1, 1, -1, 1)", "cloth(1, 1, 1, -1)", "cloth(MAX, 1, 1, 1)",
            "cloth(1, MAX, 1, 1)", "cloth(1, 1, MAX, 1)", "cloth(1, 1, 1, MAX)",
            "cloth(MIN, MIN, MIN, MIN)");
        refused(Stage.NEW, BEYOND, "broken(-1, true)", "broken(9, true)", "broken(9, false)");
        refused(Stage.LAID, BEYOND, "broken(-1, true)", "broken(-1, false)", "broken(6, true)",
            "broken(6, false)", "broken(8, true)", "broken(MAX, true)", "broken(MIN, true)");
    }

    /** 15: "MISSING: TABLES were not found; FULL: there is not ROOM for all". */
    private static void sets() {
        refused(Stage.NEW, MISSING, "set()");
        refused(Stage.NET, MISSING, "set()");
        refused(Stage.TIGHT, MISSING, "set()");
        refused(Stage.TIGHT_FOUND, FULL, "set()");
    }

    /** 16: "BEYOND (CELL), MISSING: nothing is SET, or it is no THING". */
    private static void tiles() {
        refused(Stage.NEW, BEYOND, "tile(0)");
        refused(Stage.NET, BEYOND, "tile(-1)", "tile(5)");
        refused(Stage.NET, MISSING, "tile(0)", "tile(3)", "tile(4)");
        refused(Stage.FOUND, BEYOND, "tile(5)");
        refused(Stage.FOUND, MISSING, "tile(0)", "tile(4)");
        refused(Stage.LAID, BEYOND, "tile(-1)", "tile(5)", "tile(MAX)", "tile(MIN)");
        refused(Stage.LAID, MISSING, "tile(3)");
        refused(Stage.CROWDED, BEYOND, "tile(32)");
    }

    /** 17: "BEYOND (CELL, TILE), MISSING; FULL". */
    private static void moves() {
        refused(Stage.NEW, BEYOND, "move(0, 0)");
        refused(Stage.FOUND, BEYOND, "move(-1, 0)", "move(5, 0)", "move(0, -1)", "move(0, 6)",
            "move(3, 6)");
        refused(Stage.FOUND, MISSING, "move(0, 0)", "move(4, 5)", "move(3, 3)");
        refused(Stage.LAID, BEYOND, "move(-1, 3)", "move(5, 3)", "move(0, -1)", "move(0, 6)",
            "move(5, 6)", "move(3, 6)", "move(5, 5)", "move(MAX, 0)", "move(MIN, 0)",
            "move(0, MAX)", "move(0, MIN)");
        refused(Stage.LAID, MISSING, "move(3, 3)", "move(3, 0)", "move(3, 5)");
        refused(Stage.LAID, FULL, "move(0, 1)", "move(4, 0)", "move(0, 5)");
        refused(Stage.CROWDED, FULL, "move(0, 7)", "move(31, 0)");
    }

    /** 18: "BEYOND, MISSING (the first, then the other)". */
    private static void swaps() {
        refused(Stage.NEW, BEYOND, "swap(0, 0)");
        refused(Stage.FOUND, BEYOND, "swap(-1, 0)", "swap(5, 0)", "swap(0, -1)", "swap(0, 5)");
        refused(Stage.FOUND, MISSING, "swap(0, 1)", "swap(0, 0)", "swap(3, 3)");
        refused(Stage.LAID, BEYOND, "swap(-1, 0)", "swap(0, -1)", "swap(5, 3)", "swap(3, 5)",
            "swap(MAX, 0)", "swap(MIN, 0)", "swap(0, MAX)", "swap(0, MIN)");
        refused(Stage.LAID, MISSING, "swap(3, 0)", "swap(0, 3)", "swap(3, 3)");
    }

    /** 19: "BELOW; NO: above 1000; MISSING". */
    private static void smooths() {
        refused(Stage.NEW, BELOW, "smooth(-1, 0)", "smooth(MIN, 0)");
        refused(Stage.NEW, NO, "smooth(1001, 0)");
        refused(Stage.NEW, MISSING, "smooth(0, 0)", "smooth(1, 0)", "smooth(1000, 0)");
        refused(Stage.FOUND, MISSING, "smooth(0, 5)", "smooth(1000, 5)");
        refused(Stage.LAID, BELOW, "smooth(-1, 5)", "smooth(MIN, 5)");
        refused(Stage.LAID, NO, "smooth(1001, 5)", "smooth(MAX, 5)");
    }

    /** 20: "MISSING"; 21: "BEYOND (of 1: CELL), MISSING, NO". */
    private static void costAndWires() {
        refused(Stage.NEW, MISSING, "cost()", "wires(0, 0)", "wires(0, 2)", "wires(0, -1)");
        refused(Stage.NEW, BEYOND, "wires(0, 1)", "wires(-1, 1)");
        refused(Stage.NET, MISSING, "cost()");
        refused(Stage.FOUND, MISSING, "cost()", "wires(0, 0)", "wires(-7, 0)", "wires(5, 0)",
            "wires(0, 1)", "wires(3, 1)", "wires(0, 2)", "wires(5, 2)", "wires(0, -1)");
        refused(Stage.FOUND, BEYOND, "wires(-1, 1)", "wires(5, 1)");
        refused(Stage.LAID, BEYOND, "wires(-1, 1)", "wires(5, 1)", "wires(MAX, 1)", "wires(MIN, 1)");
        refused(Stage.LAID, MISSING, "wires(3, 1)");
        refused(Stage.LAID, NO, "wires(0, -1)", "wires(0, 2)", "wires(3, 2)", "wires(5, 2)",
            "wires(-1, -1)", "wires(0, MAX)", "wires(0, MIN)");
    }

    /** 22: TURNS 1 .. 40; "BELOW; NO; MISSING". */
    private static void leads() {
        refused(Stage.NEW, BELOW, "lead(-1)");
        refused(Stage.NEW, NO, "lead(0)", "lead(41)");
        refused(Stage.NEW, MISSING, "lead(1)", "lead(40)");
        refused(Stage.FOUND, MISSING, "lead(1)");
        refused(Stage.SET, BELOW, "lead(-1)", "lead(MIN)");
        refused(Stage.SET, NO, "lead(0)", "lead(41)", "lead(MAX)");
        refused(Stage.LAID, BELOW, "lead(-1)", "lead(MIN)");
        refused(Stage.LAID, NO, "lead(0)", "lead(41)", "lead(MAX)");
    }

    /** 23: "BEYOND; MISSING: there was no lead()"; 26: the same MISSING. */
    private static void joints() {
        refused(Stage.NEW, BEYOND, "joint(-1)", "joint(12)");
        refused(Stage.NEW, MISSING, "joint(0)", "joint(11)", "longest()");
        refused(Stage.FOUND, MISSING, "joint(6)", "longest()");
        refused(Stage.SET, BEYOND, "joint(-1)", "joint(7)");
        refused(Stage.SET, MISSING, "joint(0)", "joint(6)", "longest()");
        refused(Stage.LAID, BEYOND, "joint(-1)", "joint(7)", "joint(11)", "joint(MAX)", "joint(MIN)");
    }

    /** 24: "BEYOND (CELL), BELOW: i; MISSING". */
    private static void ways() {
        refused(Stage.NEW, BEYOND, "way(0, 0)", "way(0, -1)");
        refused(Stage.FOUND, BEYOND, "way(5, -1)");
        refused(Stage.FOUND, BELOW, "way(0, -1)");
        refused(Stage.FOUND, MISSING, "way(0, 0)");
        refused(Stage.SET, BEYOND, "way(-1, 0)", "way(5, 0)", "way(5, -1)");
        refused(Stage.SET, BELOW, "way(0, -1)", "way(3, -1)");
        refused(Stage.SET, MISSING, "way(0, 0)", "way(3, 0)");
        refused(Stage.LED, BEYOND, "way(-1, 0)", "way(5, 0)", "way(5, -1)", "way(MAX, 0)",
            "way(MIN, 0)");
        refused(Stage.LED, BELOW, "way(0, -1)", "way(0, MIN)", "way(3, -1)");
        refused(Stage.LED, MISSING, "way(3, 0)", "way(3, MAX)");
    }

    /** 25: "BEYOND, NO". */
    private static void sides() {
        refused(Stage.NEW, BEYOND, "side(-1, 0)", "side(12, 0)", "side(12, 3)", "side(-1, -1)");
        refused(Stage.NEW, NO, "side(0, -1)", "side(11, 3)");
        refused(Stage.LAID, BEYOND, "side(-1, 2)", "side(7, 2)", "side(7, 3)", "side(MAX, 0)",
            "side(MIN, 0)");
        refused(Stage.LAID, NO, "side(0, -1)", "side(6, 3)", "side(0, MAX)", "side(0, MIN)");
    }

    /** 27: "MISSING: nothing is SET". */
    private static void frames() {
        refused(Stage.NEW, MISSING, "frames()");
        refused(Stage.NET, MISSING, "frames()");
        refused(Stage.FOUND, MISSING, "frames()");
        refused(Stage.TIGHT_FOUND, MISSING, "frames()");
    }

    /** 28: "BEYOND (TILE), MISSING: they were not written; BEYOND". */
    private static void octets() {
        refused(Stage.NEW, BEYOND, "octet(-1, 0)", "octet(9, 0)", "octet(9, -1)");
        refused(Stage.NEW, MISSING, "octet(0, 0)", "octet(8, -1)");
        refused(Stage.LED, BEYOND, "octet(-1, 0)", "octet(6, 0)", "octet(6, 99)");
        refused(Stage.LED, MISSING, "octet(0, 0)", "octet(0, -1)", "octet(5, 99)");
        refused(Stage.LAID, BEYOND, "octet(-1, 0)", "octet(6, 0)", "octet(MAX, 0)", "octet(MIN, 0)");
        refused(Stage.LAID, BEYOND, "octet(0, -1)", "octet(0, 8)", "octet(1, 12)", "octet(5, 1)",
            "octet(0, MAX)", "octet(0, MIN)");
    }

    /** 29: mask 1 .. 255; "BEYOND, MISSING, BEYOND, NO". */
    private static void bends() {
        refused(Stage.NEW, BEYOND, "bend(-1, 0, 1)", "bend(9, 0, 1)", "bend(9, -1, 0)");
        refused(Stage.NEW, MISSING, "bend(0, 0, 1)", "bend(8, -1, 0)");
        refused(Stage.LED, BEYOND, "bend(6, -1, 0)");
        refused(Stage.LED, MISSING, "bend(0, 0, 1)", "bend(0, -1, 0)", "bend(5, 99, 256)");
        refused(Stage.LAID, BEYOND, "bend(-1, 0, 1)", "bend(6, 0, 1)", "bend(6, 0, 0)",
            "bend(MAX, 0, 1)", "bend(MIN, 0, 1)");
        refused(Stage.LAID, BEYOND, "bend(0, -1, 1)", "bend(0, 8, 1)", "bend(0, 8, 0)",
            "bend(5, 1, 256)", "bend(0, MAX, 1)", "bend(0, MIN, 1)");
        refused(Stage.LAID, NO, "bend(0, 0, 0)", "bend(0, 0, 256)", "bend(0, 0, -1)",
            "bend(0, 7, MAX)", "bend(0, 7, MIN)");
    }

    /** 30, 31: "MISSING". */
    private static void checks() {
        Stage[] without = {Stage.NEW, Stage.NET, Stage.FOUND, Stage.SET, Stage.LED};
        for (Stage stage : without) {
            refused(stage, MISSING, "check()", "back()");
        }
    }

    /** 33: "BEYOND: INPUTS". */
    private static void clocks() {
        refused(Stage.NEW, BEYOND, "clock(1)", "clock(-1)", "clock(MAX)", "clock(MIN)");
        refused(Stage.NET, BEYOND, "clock(4)", "clock(-1)");
        refused(Stage.LAID, BEYOND, "clock(4)", "clock(5)", "clock(7)", "clock(-1)", "clock(MAX)",
            "clock(MIN)");
        refused(Stage.CROWDED, BEYOND, "clock(64)", "clock(65)", "clock(-1)");
        refused(Stage.KEEPERS_FULL, BEYOND, "clock(1)");
    }

    /** 34: "NO; MISSING: of 0, 1 there was no CLOCK; of 1, 3 FRAMES were not written". */
    private static void tolds() {
        refused(Stage.NEW, NO, "told(-1)", "told(4)", "told(MAX)", "told(MIN)");
        refused(Stage.NEW, MISSING, "told(0)", "told(1)", "told(3)");
        refused(Stage.NET, MISSING, "told(1)", "told(3)");
        refused(Stage.LED, MISSING, "told(1)", "told(3)");
        refused(Stage.WRITTEN, MISSING, "told(0)", "told(1)");
        refused(Stage.LAID, NO, "told(-1)", "told(4)", "told(MAX)", "told(MIN)");
    }

    /** 35: "BEYOND, MISSING". */
    private static void lays() {
        refused(Stage.NEW, BEYOND, "lay(-1)", "lay(9)");
        refused(Stage.NEW, MISSING, "lay(0)", "lay(8)");
        refused(Stage.LED, BEYOND, "lay(-1)", "lay(6)");
        refused(Stage.LED, MISSING, "lay(0)", "lay(5)");
        refused(Stage.LAID, BEYOND, "lay(-1)", "lay(6)", "lay(MAX)", "lay(MIN)");
    }

    /** 37: "MISSING, BEYOND". */
    private static void rows() {
        refused(Stage.NEW, MISSING, "row(0)", "row(-1)", "row(MAX)");
        refused(Stage.WRITTEN, MISSING, "row(0)", "row(-1)");
        refused(Stage.LAID, BEYOND, "row(-1)", "row(8)", "row(MAX)", "row(MIN)");
    }

    /** 38: "MISSING, BELOW: n; COPY: i or j below 0, i + n or j + n above how many there are". */
    private static void copies() {
        refused(Stage.NEW, MISSING, "copy(0, 0, 0)", "copy(0, 0, -1)", "copy(-1, 0, 1)");
        refused(Stage.WRITTEN, MISSING, "copy(0, 0, 0)", "copy(-1, -1, -1)");
        refused(Stage.LAID, BELOW, "copy(0, 0, -1)", "copy(-1, 0, -1)", "copy(0, 99, -1)",
            "copy(0, 0, MIN)", "copy(MIN, MIN, MIN)");
        refused(Stage.LAID, COPY, "copy(-1, 0, 0)", "copy(0, -1, 0)", "copy(-1, 0, 1)",
            "copy(0, -1, 1)", "copy(MIN, 0, 1)", "copy(0, MIN, 1)");
        refused(Stage.LAID, COPY, "copy(9, 0, 0)", "copy(0, 9, 0)", "copy(8, 0, 1)",
            "copy(0, 8, 1)", "copy(1, 0, 8)", "copy(0, 1, 8)", "copy(0, 0, 9)");
        refused(Stage.LAID, COPY, "copy(MAX, 0, 1)", "copy(0, MAX, 1)", "copy(0, 0, MAX)",
            "copy(MAX, 0, MAX)", "copy(0, MAX, MAX)", "copy(1, 1, MAX)", "copy(MAX, MAX, MAX)");
    }

    /** 39: "NO: another number". */
    private static void statuses() {
        refused(Stage.NEW, NO, "status(-1)", "status(0)", "status(1)", "status(-9)",
            "status(MAX)", "status(MIN)");
        refused(Stage.LAID, NO, "status(-1)", "status(-9)");
    }
}
