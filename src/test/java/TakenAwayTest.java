import java.util.EnumSet;
import java.util.List;

/**
 * Part 5: "What changes THE NET takes away TABLES, places, ways, FRAMES, and puts both runs to the
 * beginning; what changes THE CLOTH (cloth, broken) takes away places, ways, FRAMES; set, swap,
 * smooth, and move to another TILE, take away ways and FRAMES." Each such call, and all that asks
 * for what was taken away; and of each other call that it takes nothing away.
 */
public final class TakenAwayTest {
    private static final Due DUE = new Due("TakenAwayTest");
    private static final int MISSING = ClothMaker.MISSING;

    private static final String[] NET_CHANGES = {"input()", "keeper(true)", "keeper(false)",
        "gate(0, 0, 0)", "source(0, 1)", "source(0, 4)", "out(0)", "out(4)"};
    private static final String[] CLOTH_CHANGES = {"cloth(3, 2, 2, 1)", "cloth(3, 2, 2, 2)",
        "cloth(6, 6, 4, 4)", "cloth(3, 3, 1, 1)", "broken(4, true)", "broken(4, false)",
        "broken(5, true)", "broken(5, false)"};
    private static final String[] PLACE_CHANGES = {"set()", "swap(0, 4)", "swap(0, 1)",
        "swap(2, 2)", "smooth(0, 1)", "smooth(1, 1)", "smooth(1000, 1)", "move(0, 3)"};

    private static final String[] ASK_TABLES = {"table(4, 0)", "table(4, 1)", "set()"};
    private static final String[] ASK_PLACES = {"tile(0)", "move(0, 3)", "swap(0, 1)",
        "smooth(0, 1)", "smooth(1, 1)", "cost()", "wires(0, 0)", "wires(0, 1)",
        "lead(1)", "frames()"};
    private static final String[] ASK_WAYS = {"joint(0)", "way(0, 0)", "longest()"};
    private static final String[] ASK_FRAMES = {"octet(0, 0)", "bend(0, 0, 1)", "check()",
        "back()", "told(1)", "told(3)", "lay(0)"};

    public static void main(String[] args) {
        netChanges();
        clothChanges();
        placeChanges();
        beginnings();
        othersTakeNothing();
        onlyWhatIsTold();
        foundAnew();
        DUE.end();
    }

    private static ClothMaker behind(String change) {
        ClothMaker x = Stage.LAID.make();
        DUE.holds(change + " is done", Calls.ask(x, change) >= 0);
        return x;
    }

    private static void areMissing(String change, String[] calls) {
        for (String call : calls) {
            DUE.same(call + " behind " + change, Calls.ask(behind(change), call), MISSING);
        }
    }

    private static void areThere(String change, String[] calls) {
        for (String call : calls) {
            DUE.holds(call + " behind " + change, Calls.ask(behind(change), call) >= -1);
        }
    }

    private static void answers(String change, String call, int due) {
        DUE.same(call + " behind " + change, Calls.ask(behind(change), call), due);
    }

    private static void waysAndFramesAreGone(String change) {
        areMissing(change, ASK_WAYS);
        areMissing(change, ASK_FRAMES);
        answers(change, "side(0, 2)", 0);
        answers(change, "start()", 0);
        answers(change, "row(0)", 0);
        answers(change, "tear()", 1);
    }

    private static void netChanges() {
        for (String change : NET_CHANGES) {
            areMissing(change, ASK_TABLES);
            areMissing(change, ASK_PLACES);
            answers(change, "move(0, 0)", MISSING);
            waysAndFramesAreGone(change);
            answers(change, "told(0)", MISSING);
            answers(change, "told(2)", 0);
            answers(change, "cuts(4)", 2);
            answers(change, "depth(4)", 1);
            answers(change, "broken(5, true)", 1);
            answers(change, "side(7, 0)", ClothMaker.BEYOND);
            // KEEPER 0 was 0 by now, and INPUTS do not make OUT 0 another.
            DUE.same("the net is at the beginning behind " + change, behind(change).clock(0) & 1, 1);
        }
    }

    private static void clothChanges() {
        for (String change : CLOTH_CHANGES) {
            areThere(change, ASK_TABLES);
            areMissing(change, ASK_PLACES);
            answers(change, "move(0, 0)", MISSING);
            waysAndFramesAreGone(change);
            netGoesOn(change);
        }
    }

    private static void placeChanges() {
        for (String change : PLACE_CHANGES) {
            areThere(change, ASK_TABLES);
            areThere(change, ASK_PLACES);
            waysAndFramesAreGone(change);
            netGoesOn(change);
        }
    }

    /** KEEPER 0 is 0 behind the three CLOCKS of LAID; the last told 0 and 0. */
    private static void netGoesOn(String change) {
        answers(change, "told(0)", 0);
        answers(change, "told(2)", 3);
        answers(change, "clock(0)", 0);
        ClothMaker x = behind(change);
        x.clock(3);
        DUE.same("a CLOCK more behind " + change, x.told(2), 4);
        DUE.same("THE CLOTH stands behind " + change, x.told(1), MISSING);
    }

    /** "FRAMES are written, and both runs are at the beginning"; start() the same. */
    private static void beginnings() {
        String[] calls = {"frames()", "start()"};
        for (String call : calls) {
            answers(call, "told(0)", MISSING);
            answers(call, "told(1)", MISSING);
            answers(call, "told(2)", 0);
            answers(call, "told(3)", ClothMaker.NONE);
            answers(call, "clock(0)", 1);
            ClothMaker x = behind(call);
            x.clock(0);
            DUE.same("THE CLOTH's KEEPER behind " + call, x.told(1), 1);
        }
        changesOnly("start()", EnumSet.of(Sight.RUNS));
        changesOnly("frames()", EnumSet.of(Sight.RUNS, Sight.FRAMES));
    }

    /** What one call made other, looked at in every way that there is. */
    private static void changesOnly(String call, EnumSet<Sight> due) {
        EnumSet<Sight> other = EnumSet.noneOf(Sight.class);
        for (Sight sight : Sight.values()) {
            List<Integer> seen = sight.of(behind(call));
            if (!seen.equals(sight.of(Stage.LAID.make()))) {
                other.add(sight);
            }
        }
        DUE.holds(call + " changed " + other + ", due is " + due, other.equals(due));
    }

    private static void othersTakeNothing() {
        String[] calls = {"cell(0, 0)", "cell(4, 1)", "cuts(4)", "cut(4, 0)", "depth(4)",
            "tables()", "table(4, 1)", "tile(0)", "move(0, 0)", "move(4, 1)", "cost()",
            "wires(0, 0)", "wires(0, 1)", "joint(0)", "way(0, 0)", "side(0, 2)", "longest()",
            "octet(0, 0)", "check()", "back()", "told(0)", "told(1)", "told(2)", "told(3)",
            "lay(0)", "row(0)", "copy(0, 1, 0)", "copy(2, 2, 3)", "status(-2)", "status(-8)"};
        for (String call : calls) {
            changesOnly(call, EnumSet.noneOf(Sight.class));
        }
    }

    private static void onlyWhatIsTold() {
        changesOnly("clock(3)", EnumSet.of(Sight.RUNS));
        changesOnly("bend(0, 0, 255)", EnumSet.of(Sight.FRAMES));
        changesOnly("bend(1, 7, 2)", EnumSet.of(Sight.FRAMES, Sight.RUNS));
        changesOnly("lay(1)", EnumSet.of(Sight.ROW));
        changesOnly("tear()", EnumSet.of(Sight.ROW));
        changesOnly("copy(0, 1, 7)", EnumSet.of(Sight.ROW));
        ClothMaker x = Stage.LAID.make();
        DUE.same("lead() is not LED", x.lead(1), ClothMaker.NONE);
        DUE.same("FRAMES stand behind lead()", x.octet(1, 7), 3);
        DUE.same("the runs go on behind lead()", x.told(2), 3);
        DUE.same("THE CLOTH's too", x.told(3), 2);
    }

    /** What was taken away comes back as it comes at first. */
    private static void foundAnew() {
        ClothMaker x = behind("out(0)");
        DUE.same("TABLES anew", x.tables(), 1);
        DUE.same("SET anew", x.set(), 4);
        DUE.same("no ways yet", x.joint(0), MISSING);
        DUE.same("no FRAMES yet", x.octet(0, 0), MISSING);
        DUE.same("led anew", x.lead(1), ClothMaker.NONE);
        DUE.same("PAST is of this one alone", x.side(0, 2), 2);
        DUE.same("FRAMES anew", x.frames(), 8 + 12 + 4);
        DUE.same("they are not bent", x.octet(1, 7), 1);
        DUE.same("no CLOCK yet", x.told(1), MISSING);
    }
}
