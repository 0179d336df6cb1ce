import java.util.ArrayList;
import java.util.List;

/**
 * All that can be seen of an object but status(). Looking makes refused calls, too, and more calls
 * than one object has: so each part is looked at in an object of its own.
 */
enum Sight {
    /** CELLS, how deep they are, how many CUTS they have. */
    NET,
    /** CUTS and TABLES. */
    CONES,
    /** TILES of THINGS, ENDS, COST. */
    PLACES,
    /** WIRES of JOINTS, and PAST. */
    JOINTS,
    /** JOINTS of WIRES. */
    WAYS,
    /** Bytes, SUMS, BITS read back. */
    FRAMES,
    /** What was told, and what a few CLOCKS more tell. */
    RUNS,
    /** THE ROW. */
    ROW,
    /** What THE CLOTH is: seen by setting and leading anew. */
    CLOTH;

    private static final int MOST_CELLS = 32;
    private static final int MOST_TILES = 36;
    private static final int MOST_JOINTS = 60;

    List<Integer> of(ClothMaker x) {
        List<Integer> seen = new ArrayList<>();
        switch (this) {
            case NET:
                lookAtNet(x, seen);
                break;
            case CONES:
                lookAtCones(x, seen);
                break;
            case PLACES:
                lookAtPlaces(x, seen);
                break;
            case JOINTS:
                lookAtJoints(x, seen);
                break;
            case WAYS:
                lookAtWays(x, seen);
                break;
            case FRAMES:
                lookAtFrames(x, seen);
                break;
            case RUNS:
                lookAtRuns(x, seen);
                break;
            case ROW:
                lookAtRow(x, seen);
                break;
            default:
                lookAtCloth(x, seen);
                break;
        }
        return seen;
    }

    private static void lookAtNet(ClothMaker x, List<Integer> seen) {
        for (int c = 0; c < MOST_CELLS; c++) {
            for (int what = 0; what < 4; what++) {
                seen.add(x.cell(c, what));
            }
            seen.add(x.depth(c));
            seen.add(x.cuts(c));
        }
    }

    private static void lookAtCones(ClothMaker x, List<Integer> seen) {
        for (int c = 0; c < MOST_CELLS; c++) {
            for (int i = 0; i < 3; i++) {
                seen.add(x.cut(c, i));
            }
            for (int what = 0; what < 6; what++) {
                seen.add(x.table(c, what));
            }
        }
    }

    private static void lookAtPlaces(ClothMaker x, List<Integer> seen) {
        for (int c = 0; c < MOST_CELLS; c++) {
            seen.add(x.tile(c));
            seen.add(x.wires(c, 1));
        }
        seen.add(x.wires(0, 0));
        seen.add(x.cost());
    }

    private static void lookAtJoints(ClothMaker x, List<Integer> seen) {
        for (int j = 0; j < MOST_JOINTS; j++) {
            for (int what = 0; what < 3; what++) {
                seen.add(x.side(j, what));
            }
            seen.add(x.joint(j));
        }
        seen.add(x.longest());
    }

    private static void lookAtWays(ClothMaker x, List<Integer> seen) {
        for (int c = 0; c < MOST_CELLS; c++) {
            int joint = 0;
            for (int i = 0; i < 12 && joint >= 0; i++) {
                joint = x.way(c, i);
                seen.add(joint);
            }
        }
    }

    private static void lookAtFrames(ClothMaker x, List<Integer> seen) {
        for (int t = 0; t < MOST_TILES; t++) {
            int octet = 0;
            for (int i = 0; i < 38 && octet >= 0; i++) {
                octet = x.octet(t, i);
                seen.add(octet);
            }
        }
        seen.add(x.check());
        seen.add(x.back());
    }

    private static void lookAtRuns(ClothMaker x, List<Integer> seen) {
        for (int what = 0; what < 4; what++) {
            seen.add(x.told(what));
        }
        int[] inputs = {0, 1, 3, 2, 1, 1, 0, 21, 42, 63, 32};
        for (int in : inputs) {
            seen.add(x.clock(in));
            seen.add(x.told(1));
            seen.add(x.told(3));
        }
        seen.add(x.told(2));
        seen.add(x.start());
    }

    private static void lookAtRow(ClothMaker x, List<Integer> seen) {
        for (int i = 0; i < 38; i++) {
            seen.add(x.row(i));
        }
        seen.add(x.tear());
    }

    private static void lookAtCloth(ClothMaker x, List<Integer> seen) {
        seen.add(x.tables());
        seen.add(x.set());
        for (int c = 0; c < MOST_CELLS; c++) {
            seen.add(x.tile(c));
        }
        seen.add(x.lead(1));
        for (int j = 0; j < MOST_JOINTS; j++) {
            seen.add(x.joint(j));
            seen.add(x.side(j, 2));
        }
        for (int t = 0; t < MOST_TILES; t++) {
            seen.add(x.broken(t, false));
        }
    }
}
