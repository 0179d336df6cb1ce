/** Promises 22 to 26: ways. */
public final class WaysTest {
    private static final Due DUE = new Due("WaysTest");

    public static void main(String[] args) {
        twoTurns();
        leastTileBack();
        treeGrows();
        endInTree();
        overBroken();
        carriesMore();
        leadRefused();
        askedTooEarly();
        sides();
        longestIsOfEnds();
        DUE.end();
    }

    /** INPUTS 0 and 1 in TILE 0, TABLE 2 in TILE 1 of 2 by 2, JOINTS carry 1. */
    private static ClothMaker square() {
        ClothMaker x = new ClothMaker();
        x.input();
        x.input();
        x.gate(0, 0, 2);
        x.out(2);
        x.tables();
        x.cloth(2, 2, 2, 1);
        x.set();
        return x;
    }

    private static void twoTurns() {
        ClothMaker x = square();
        DUE.same("25: PAST ahead of a lead()", x.side(0, 2), 0);
        DUE.same("22: one TURN is not enough", x.lead(1), ClothMaker.NONE);
        DUE.same("23: both go straight", x.joint(0), 2);
        DUE.same("24: the first", x.way(0, 0), 0);
        DUE.same("24: the second", x.way(1, 0), 0);
        DUE.same("25: PAST behind the last TURN too", x.side(0, 2), 1);
        DUE.same("25: PAST of another", x.side(1, 2), 0);
        DUE.same("26: one JOINT", x.longest(), 1);
        DUE.same("22: anew, PAST 0", x.lead(1), ClothMaker.NONE);
        DUE.same("25: PAST anew", x.side(0, 2), 1);
        DUE.same("22: the second TURN", x.lead(40), 2);
        DUE.same("25: PAST of the first TURN", x.side(0, 2), 1);
        for (int j = 0; j < 4; j++) {
            DUE.same("23: one each", x.joint(j), 1);
        }
        for (int i = 0; i < 3; i++) {
            DUE.same("24: the first goes round, by numbers", x.way(0, i), i + 1);
        }
        DUE.same("24: not so many", x.way(0, 3), ClothMaker.NONE);
        DUE.same("24: the second goes straight", x.way(1, 0), 0);
        DUE.same("24: and no more", x.way(1, 1), ClothMaker.NONE);
        DUE.same("24: no WIRE", x.way(2, 0), ClothMaker.NONE);
        DUE.same("26: three JOINTS", x.longest(), 3);
    }

    private static void leastTileBack() {
        ClothMaker x = square();
        x.cloth(2, 2, 2, 2);
        x.set();
        x.move(2, 3);
        DUE.same("22: LED", x.lead(1), 1);
        DUE.same("24: over TILE 1", x.way(0, 0), 0);
        DUE.same("24: and down", x.way(0, 1), 3);
        DUE.same("24: the second as well", x.way(1, 1), 3);
        DUE.same("23: TILE 2 is not met", x.joint(1), 0);
    }

    /** INPUT 0 is in all of TABLES 1, 2 and 3; one THING in each TILE. */
    private static ClothMaker fan(int wide, int high) {
        ClothMaker x = new ClothMaker();
        x.input();
        for (int k = 1; k <= 3; k++) {
            x.gate(0, 0, 0);
            x.out(k);
        }
        x.tables();
        x.cloth(wide, high, 1, 1);
        x.set();
        return x;
    }

    private static void treeGrows() {
        ClothMaker x = fan(2, 2);
        DUE.same("22: LED", x.lead(1), 1);
        DUE.same("24: to 1", x.way(0, 0), 0);
        DUE.same("24: to 2", x.way(0, 1), 2);
        DUE.same("24: to 3 from 1, the least", x.way(0, 2), 3);
        DUE.same("24: that is all", x.way(0, 3), ClothMaker.NONE);
        DUE.same("23: each once", x.joint(0), 1);
        DUE.same("26: two JOINTS to 3", x.longest(), 2);
    }

    private static void endInTree() {
        ClothMaker x = fan(4, 1);
        x.swap(0, 3);
        DUE.same("22: LED, as each END takes each JOINT once", x.lead(1), 1);
        for (int j = 0; j < 3; j++) {
            DUE.same("24: JOINT by JOINT", x.way(0, j), j);
            DUE.same("23: one WIRE", x.joint(j), 1);
        }
        DUE.same("26: to TILE 0", x.longest(), 3);
    }

    private static void overBroken() {
        ClothMaker x = square();
        x.cloth(3, 1, 2, 2);
        x.broken(1, true);
        x.set();
        DUE.same("16: behind the BROKEN one", x.tile(2), 2);
        DUE.same("22: JOINTS there carry WIRES", x.lead(1), 1);
        DUE.same("23: both", x.joint(1), 2);
        DUE.same("26: two JOINTS", x.longest(), 2);
    }

    private static void carriesMore() {
        ClothMaker x = new ClothMaker();
        for (int k = 0; k < 4; k++) {
            x.input();
        }
        x.gate(0, 0, 2);
        x.gate(0, 4, 6);
        x.gate(0, 8, 10);
        x.out(6);
        x.tables();
        x.cloth(2, 1, 4, 3);
        x.set();
        DUE.same("22: there is no other way", x.lead(3), ClothMaker.NONE);
        DUE.same("25: one more, three times", x.side(0, 2), 3);
        DUE.same("23: four WIRES", x.joint(0), 4);
        x.cloth(2, 1, 4, 4);
        x.set();
        DUE.same("22: it carries four", x.lead(3), 1);
        DUE.same("25: no PAST", x.side(0, 2), 0);
        x.cloth(2, 1, 4, 1);
        x.set();
        DUE.same("22: it carries one", x.lead(2), ClothMaker.NONE);
        DUE.same("25: three more, two times", x.side(0, 2), 6);
    }

    private static void leadRefused() {
        ClothMaker x = square();
        DUE.same("22: below", x.lead(-1), ClothMaker.BELOW);
        DUE.same("22: none", x.lead(0), ClothMaker.NO);
        DUE.same("22: too many", x.lead(41), ClothMaker.NO);
        x.cloth(2, 2, 2, 1);
        DUE.same("22: BELOW ahead of MISSING", x.lead(-1), ClothMaker.BELOW);
        DUE.same("22: NO ahead of MISSING", x.lead(41), ClothMaker.NO);
        DUE.same("22: nothing is SET", x.lead(1), ClothMaker.MISSING);
    }

    private static void askedTooEarly() {
        ClothMaker x = square();
        x.gate(1, 0, 2);
        x.tables();
        x.set();
        DUE.same("23: below", x.joint(-1), ClothMaker.BEYOND);
        DUE.same("23: beyond", x.joint(4), ClothMaker.BEYOND);
        DUE.same("23: no lead()", x.joint(0), ClothMaker.MISSING);
        DUE.same("24: CELL beyond, ahead of BELOW", x.way(4, -1), ClothMaker.BEYOND);
        DUE.same("24: i below, ahead of MISSING", x.way(0, -1), ClothMaker.BELOW);
        DUE.same("24: no lead()", x.way(0, 0), ClothMaker.MISSING);
        DUE.same("26: no lead()", x.longest(), ClothMaker.MISSING);
        x.lead(1);
        DUE.same("24: no THING", x.way(3, 0), ClothMaker.MISSING);
        DUE.same("24: CELL below", x.way(-1, 0), ClothMaker.BEYOND);
        DUE.same("24: i far beyond", x.way(0, Integer.MAX_VALUE), ClothMaker.NONE);
        DUE.same("23: beyond as before", x.joint(Integer.MAX_VALUE), ClothMaker.BEYOND);
    }

    private static void sides() {
        ClothMaker x = square();
        x.lead(1);
        DUE.same("25: below", x.side(-1, 9), ClothMaker.BEYOND);
        DUE.same("25: beyond", x.side(4, 9), ClothMaker.BEYOND);
        DUE.same("25: what below", x.side(0, -1), ClothMaker.NO);
        DUE.same("25: what beyond", x.side(0, 3), ClothMaker.NO);
        DUE.same("25: PAST", x.side(0, 2), 1);
        x.swap(0, 1);
        DUE.same("25: PAST went with the ways", x.side(0, 2), 0);
    }

    private static void longestIsOfEnds() {
        ClothMaker x = square();
        x.cloth(1, 1, 3, 1);
        x.set();
        DUE.same("22: no WIRES", x.lead(1), 1);
        DUE.same("26: 0 without WIRES", x.longest(), 0);
        x.cloth(6, 6, 2, 2);
        x.set();
        x.move(2, 35);
        x.lead(1);
        DUE.same("26: across the whole", x.longest(), 10);
    }
}
