import java.lang.reflect.Method;
import java.lang.reflect.Modifier;
import java.util.ArrayList;
import java.util.List;
import java.util.Random;

/**
 * "An object is used for at most 512 calls": the 512th is answered as the first is, whatever came
 * before. What later calls answer is free, but LANGUAGE.md has it that no call ever throws.
 */
public final class ManyCallsTest {
    private static final Due DUE = new Due("ManyCallsTest");
    private static final int MOST_CALLS = 512;
    private static final int LATER_CALLS = 20_000;
    /** 6 INPUTS, 6 KEEPERS, 20 TABLES, of these 14 with 2 LETTERS and 6 with 4; 36 SUMS. */
    private static final int CROWDED_BYTES = 6 * 3 + 6 * 4 + 14 * 7 + 6 * 9 + 36;

    /** Some that calls take, and some that they do not. */
    private static final int[] NUMBERS = {Integer.MIN_VALUE, -1, 0, 1, 2, 3, 4, 5, 6, 11, 12, 31, 32,
        59, 60, 255, 256, 1000, 1001, Integer.MAX_VALUE};

    public static void main(String[] args) throws ReflectiveOperationException {
        refusals();
        clocks();
        turnedBytes();
        dearCalls();
        changesOfAll();
        laterCallsEnd();
        DUE.end();
    }

    private static void refusals() {
        ClothMaker x = new ClothMaker();
        for (int k = 1; k < MOST_CALLS; k++) {
            DUE.same("refused call " + k, x.set(), ClothMaker.MISSING);
        }
        DUE.same("status() as call 512", x.status(ClothMaker.MISSING), MOST_CALLS - 1);
    }

    /** A KEEPER that turns at each CLOCK: its SOURCE is its denial, as AND of it with itself. */
    private static void clocks() {
        ClothMaker x = new ClothMaker();
        x.keeper(false);
        x.gate(0, 1, 1);
        x.source(0, 1);
        x.out(0);
        x.tables();
        x.set();
        x.frames();
        int before = 7;
        int last = MOST_CALLS - before - 2;
        for (int k = 1; k <= last; k++) {
            DUE.same("CLOCK " + k, x.clock(0), (k - 1) % 2);
        }
        DUE.same("told(3) as call 511", x.told(3), ClothMaker.NONE);
        DUE.same("told(2) as call 512", x.told(2), last);
    }

    /** Bending a byte by each mask two times makes it what it was. */
    private static void turnedBytes() {
        ClothMaker x = new ClothMaker();
        x.tables();
        x.set();
        x.frames();
        int is = 255;
        for (int k = 0; k < 2 * 254; k++) {
            int mask = 1 + k % 254;
            is ^= mask;
            DUE.same("bend(8, 0, " + mask + ")", x.bend(8, 0, mask), is);
        }
        DUE.same("check() as call 512", x.check(), ClothMaker.NONE);
    }

    /** The greatest net and CLOTH, and all of n each time: behind it all is as in a new object. */
    private static void dearCalls() {
        ClothMaker x = crowded();
        for (int k = 0; k < 100; k++) {
            DUE.holds("smooth()", x.smooth(1000, 1L << k) >= 0);
            DUE.holds("lead()", x.lead(40) != 0);
            DUE.holds("longest()", x.longest() > 0);
            DUE.same("frames()", x.frames(), CROWDED_BYTES);
        }
        ClothMaker twin = crowded();
        String[] calls = {"set()", "cost()", "smooth(1000, 7)", "cost()", "lead(40)", "longest()",
            "joint(0)", "joint(59)", "side(0, 2)", "way(0, 0)", "frames()", "octet(0, 3)", "clock(63)",
            "clock(21)", "told(1)", "told(2)", "told(3)", "lay(0)", "row(1)", "back()", "check()"};
        for (String call : calls) {
            DUE.same(call + " behind many dear calls", Calls.ask(x, call), Calls.ask(twin, call));
        }
    }

    private static ClothMaker crowded() {
        ClothMaker x = new ClothMaker();
        Stage.crowd(x);
        x.cloth(6, 6, 1, 1);
        x.tables();
        x.set();
        return x;
    }

    /** Each change, up to the end of what an object is used for; then it is as a new one. */
    private static void changesOfAll() {
        for (Sight sight : List.of(Sight.PLACES, Sight.WAYS, Sight.FRAMES, Sight.RUNS, Sight.ROW)) {
            ClothMaker x = Stage.LAID.make();
            for (int k = 0; k < 30; k++) {
                x.cloth(1 + k % 6, 1 + k % 5, 4, 1 + k % 4);
                x.broken(k % 2, true);
                x.set();
                x.lead(1 + k % 3);
                x.frames();
                x.clock(k % 4);
                x.lay(0);
            }
            x.cloth(3, 2, 2, 1);
            x.broken(5, true);
            x.set();
            x.lead(3);
            x.frames();
            x.bend(1, 7, 2);
            x.clock(1);
            x.clock(3);
            x.clock(0);
            x.lay(0);
            List<Integer> due = sight.of(Stage.LAID.make());
            DUE.holds(sight + " behind many changes", sight.of(x).equals(due));
        }
    }

    private static void laterCallsEnd() throws ReflectiveOperationException {
        ClothMaker x = Stage.CROWDED.make();
        List<Method> methods = new ArrayList<>();
        for (Method method : ClothMaker.class.getDeclaredMethods()) {
            if (Modifier.isPublic(method.getModifiers())) {
                methods.add(method);
            }
        }
        Random random = new Random(MOST_CALLS);
        for (int k = 0; k < LATER_CALLS; k++) {
            Method method = methods.get(random.nextInt(methods.size()));
            Class<?>[] types = method.getParameterTypes();
            Object[] values = new Object[types.length];
            for (int i = 0; i < types.length; i++) {
                values[i] = any(types[i], random);
            }
            method.invoke(x, values);
        }
        DUE.same("status(0) of an object that was called often", x.status(0), ClothMaker.NO);
    }

    private static Object any(Class<?> type, Random random) {
        if (type == boolean.class) {
            return random.nextBoolean();
        }
        if (type == long.class) {
            return random.nextLong();
        }
        return NUMBERS[random.nextInt(NUMBERS.length)];
    }
}
