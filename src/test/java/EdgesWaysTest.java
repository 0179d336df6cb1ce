/** Promises 22 to 26: TURNS 1 and 40, no WIRES, the first and the last JOINT. */
public final class EdgesWaysTest {
    private static final Due DUE = new Due("EdgesWaysTest");

    public static void main(String[] args) {
        justFortyTurns();
        justTwoTurns();
        pastIsAnew();
        noWires();
        endAtTileZero();
        treeFromTileZero();
        tileZeroStaysOut();
        farWayRound();
        priceIsOneAtLeast();
        lastJoint();
        lastCellsWay();
        waysByNumbers();
        pastOfEach();
        longestAtTheBounds();
        DUE.end();
    }

    /** A net that needs all of the 40 TURNS. */
    private static ClothMaker slow() {
        ClothMaker x = new ClothMaker();
        for (int k = 0; k < 5; k++) {
            x.input();
        }
        x.gate(0, 0, 4);
        x.gate(0, 2, 0);
        x.gate(0, 4, 6);
        for (int c = 5; c < 8; c++) {
            x.out(c);
        }
        x.tables();
        x.cloth(4, 4, 1, 1);
        x.set();
        return x;
    }

    /** 22: "in n TURNS at most (1 .. 40): how many TURNS it took; NONE: it is not LED". */
    private static void justFortyTurns() {
        ClothMaker x = slow();
        DUE.same("22: the most TURNS, and just enough", x.lead(40), 40);
        DUE.same("22: one less is not enough", x.lead(39), ClothMaker.NONE);
        DUE.same("22: the least", x.lead(1), ClothMaker.NONE);
        DUE.same("22: one more is refused", x.lead(41), ClothMaker.NO);
        DUE.same("22: anew", x.lead(40), 40);
        for (int j = 0; j < 24; j++) {
            DUE.holds("23: none has too many", x.joint(j) <= 1);
        }
    }

    /** INPUTS 0 and 1 in TILE 0, TABLE 2 in TILE 1 of 2 by 2, JOINTS carry 1. */
    private static ClothMaker square() {
        ClothMaker x = new ClothMaker();
        x.input();
        x.input();
        x.gate(0, 0, 2);
        x.out(2);
        x.tables();
        x.cloth(2, 2, 2, 1);
        x.set();
        return x;
    }

    private static void justTwoTurns() {
        ClothMaker x = square();
        DUE.same("22: two are allowed", x.lead(2), 2);
        DUE.same("22: three are", x.lead(3), 2);
        DUE.same("22: forty are", x.lead(40), 2);
        DUE.same("22: one is", x.lead(1), ClothMaker.NONE);
        DUE.same("23: they are led all the same", x.joint(0), 2);
    }

    /** 22: "LED anew, PAST 0". */
    private static void pastIsAnew() {
        ClothMaker x = square();
        x.cloth(2, 1, 2, 1);
        x.set();
        for (int n = 40; n >= 1; n -= 3) {
            DUE.same("22: never", x.lead(n), ClothMaker.NONE);
            DUE.same("25: one more in each TURN", x.side(0, 2), n);
            DUE.same("23: taken off before", x.joint(0), 2);
        }
    }

    private static void noWires() {
        ClothMaker x = new ClothMaker();
        x.tables();
        x.set();
        DUE.same("22: no THINGS", x.lead(1), 1);
        DUE.same("26: no WIRES", x.longest(), 0);
        for (int j = 0; j < 12; j++) {
            DUE.same("23: no WIRE", x.joint(j), 0);
            DUE.same("25: no PAST", x.side(j, 2), 0);
        }
        x.input();
        x.tables();
        x.set();
        DUE.same("22: no WIRES", x.lead(40), 1);
        DUE.same("24: a THING without a WIRE", x.way(0, 0), ClothMaker.NONE);
        DUE.same("24: NONE is no refusal", x.status(ClothMaker.MISSING), 0);
    }

    /** INPUT 0 in TILE 1, TABLES 1 and 2, which both have it, in TILES 0 and 2. */
    private static ClothMaker corner(int wide, int high) {
        ClothMaker x = new ClothMaker();
        x.input();
        x.gate(0, 0, 0);
        x.gate(0, 0, 0);
        x.out(1);
        x.out(2);
        x.tables();
        x.cloth(wide, high, 1, 1);
        x.set();
        x.swap(0, 1);
        return x;
    }

    /** TILE 0 gets into the TREE, and END 2 is met from there. */
    private static void endAtTileZero() {
        ClothMaker x = corner(2, 2);
        DUE.same("22: LED", x.lead(1), 1);
        DUE.same("24: to TILE 0", x.way(0, 0), 0);
        DUE.same("24: and from there", x.way(0, 1), 2);
        DUE.same("24: no more", x.way(0, 2), ClothMaker.NONE);
        DUE.same("23: a WIRE is there once", x.joint(0), 1);
        DUE.same("26: two", x.longest(), 2);
    }

    /** In a line the TREE is TILE 1, so both ENDS are beside it. */
    private static void treeFromTileZero() {
        ClothMaker x = corner(3, 1);
        DUE.same("22: LED", x.lead(1), 1);
        DUE.same("24: to TILE 0", x.way(0, 0), 0);
        DUE.same("24: to TILE 2", x.way(0, 1), 1);
        DUE.same("26: one", x.longest(), 1);
    }

    /** INPUT 0 in TILE 4 of 3 by 3, ENDS 5 and 6: END 6 is as far from TILE 0, which is not met. */
    private static void tileZeroStaysOut() {
        ClothMaker x = corner(3, 3);
        x.move(0, 4);
        x.move(1, 5);
        x.move(2, 6);
        DUE.same("22: LED", x.lead(1), 1);
        DUE.same("24: from TILE 3", x.way(0, 0), 2);
        DUE.same("24: to TILE 5", x.way(0, 1), 3);
        DUE.same("24: to TILE 6", x.way(0, 2), 9);
        DUE.same("24: no more", x.way(0, 3), ClothMaker.NONE);
    }

    /** "the least sum of PRICES", TURN by TURN beside the plain model: PAST makes ways long. */
    private static void farWayRound() {
        for (int turns = 1; turns <= 40; turns++) {
            ClothMaker x = slow();
            PlainCloth y = slowPlain();
            DUE.same("22: lead(" + turns + ")", x.lead(turns), y.lead(turns));
            for (int j = 0; j < 24; j++) {
                DUE.same("23: JOINT " + j, x.joint(j), y.joint(j));
                DUE.same("25: PAST of " + j, x.side(j, 2), y.side(j, 2));
            }
            for (int c = 0; c < 5; c++) {
                for (int i = 0; i < 12; i++) {
                    DUE.same("24: way(" + c + ", " + i + ")", x.way(c, i), y.way(c, i));
                }
            }
            DUE.same("26: longest()", x.longest(), y.longest());
        }
    }

    private static PlainCloth slowPlain() {
        PlainCloth y = new PlainCloth();
        for (int k = 0; k < 5; k++) {
            y.input();
        }
        y.gate(0, 0, 4);
        y.gate(0, 2, 0);
        y.gate(0, 4, 6);
        for (int c = 5; c < 8; c++) {
            y.out(c);
        }
        y.tables();
        y.cloth(4, 4, 1, 1);
        y.set();
        return y;
    }

    /** "(1 + how many more WIRES than it carries it would have with this one, 0 at least)". */
    private static void priceIsOneAtLeast() {
        for (int carry = 2; carry <= 4; carry++) {
            ClothMaker x = square();
            x.cloth(2, 2, 2, carry);
            x.set();
            x.move(2, 3);
            DUE.same("22: LED", x.lead(1), 1);
            for (int c = 0; c < 2; c++) {
                DUE.same("24: over TILE 1", x.way(c, 0), 0);
                DUE.same("24: and below", x.way(c, 1), 3);
            }
            DUE.same("23: though it is emptier", x.joint(1), 0);
        }
        ClothMaker x = square();
        x.move(2, 3);
        DUE.same("22: LED, as the second is one too many there", x.lead(1), 1);
        DUE.same("24: the first over TILE 1", x.way(0, 0), 0);
        DUE.same("24: the second over TILE 2", x.way(1, 0), 1);
    }

    /** 23, 24, 25: JOINT 59 of 6 by 6. */
    private static void lastJoint() {
        ClothMaker x = square();
        x.cloth(6, 6, 2, 2);
        x.set();
        x.move(0, 29);
        x.move(1, 34);
        x.move(2, 35);
        DUE.same("22: LED", x.lead(1), 1);
        DUE.same("24: from TILE 29", x.way(0, 0), 59);
        DUE.same("24: from TILE 34", x.way(1, 0), 29);
        DUE.same("23: JOINT 59", x.joint(59), 1);
        DUE.same("23: JOINT 29", x.joint(29), 1);
        DUE.same("23: JOINT 0", x.joint(0), 0);
        DUE.same("23: no JOINT 60", x.joint(60), ClothMaker.BEYOND);
        DUE.same("25: its PAST", x.side(59, 2), 0);
    }

    /** 24: CELL 31 has a WIRE; JOINTS of a WIRE are told one behind another, then NONE. */
    private static void lastCellsWay() {
        ClothMaker x = new ClothMaker();
        x.keeper(false);
        for (int c = 1; c < 32; c++) {
            x.gate(0, 0, 0);
        }
        x.source(0, 31);
        x.tables();
        x.cloth(6, 1, 1, 1);
        DUE.same("15: KEEPER 0 and TABLE 31", x.set(), 2);
        x.move(31, 5);
        DUE.same("21: two WIRES", x.wires(0, 0), 2);
        DUE.same("22: in a line there is one way", x.lead(1), ClothMaker.NONE);
        for (int i = 0; i < 5; i++) {
            DUE.same("24: of 31", x.way(31, i), i);
            DUE.same("24: of 0", x.way(0, i), i);
        }
        DUE.same("24: not so many", x.way(31, 5), ClothMaker.NONE);
        DUE.same("24: nor so many", x.way(31, Integer.MAX_VALUE), ClothMaker.NONE);
        DUE.same("24: i below", x.way(31, -1), ClothMaker.BELOW);
        DUE.same("24: GATE 30 is no THING", x.way(30, 0), ClothMaker.MISSING);
        DUE.same("24: no CELL 32", x.way(32, 0), ClothMaker.BEYOND);
        DUE.same("26: five", x.longest(), 5);
    }

    /** 24: "JOINT i, from 0, by numbers", not as the way is gone. */
    private static void waysByNumbers() {
        ClothMaker x = square();
        x.move(0, 3);
        x.move(2, 0);
        x.move(1, 0);
        DUE.same("22: LED", x.lead(1), 1);
        DUE.same("24: the last that is gone over", x.way(0, 0), 0);
        DUE.same("24: the first", x.way(0, 1), 3);
        DUE.same("24: no more", x.way(0, 2), ClothMaker.NONE);
    }

    /** 25: "its PAST (2; 0 ahead of a lead())", and 0 of each that never had too many. */
    private static void pastOfEach() {
        ClothMaker x = square();
        for (int j = 0; j < 4; j++) {
            DUE.same("25: ahead of a lead()", x.side(j, 2), 0);
        }
        x.lead(2);
        for (int j = 0; j < 4; j++) {
            DUE.same("25: PAST of JOINT " + j, x.side(j, 2), j == 0 ? 1 : 0);
        }
        x.lead(41);
        DUE.same("25: a refused lead() leaves it", x.side(0, 2), 1);
        x.set();
        DUE.same("25: ahead of the next", x.side(0, 2), 0);
    }

    /** 26: the greatest of all WIRES and ENDS, from the THING and not from END to END. */
    private static void longestAtTheBounds() {
        ClothMaker x = corner(6, 1);
        x.move(1, 0);
        x.move(0, 3);
        x.move(2, 5);
        x.lead(1);
        DUE.same("26: three to the left, two to the right", x.longest(), 3);
        x.move(0, 1);
        x.lead(1);
        DUE.same("26: one and four", x.longest(), 4);
        x.cloth(6, 6, 3, 1);
        x.set();
        x.lead(1);
        DUE.same("26: all in one TILE", x.longest(), 0);
        x.move(2, 35);
        DUE.same("26: taken away", x.longest(), ClothMaker.MISSING);
        x.lead(1);
        DUE.same("26: from corner to corner", x.longest(), 10);
    }
}
