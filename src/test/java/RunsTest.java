import java.lang.reflect.Method;
import java.util.Arrays;
import java.util.Random;

/** Runs of 512 calls of all kinds, each call's answer held against the PlainDesk's. */
public final class RunsTest {
    private static final Due DUE = new Due("RunsTest");
    /** A call's name, how often it comes, and each argument's least and greatest ordinary value. */
    private static final Object[][] CALLS = {
        {"target", 6, 0, 3, -60, 60, -60, 60, -60, 60, 1, 60}, {"target", 10, 0, 3, 0, 2, -2, 0, 0, 3, 1, 3},
        {"bounds", 8, 0, 9, 0, 30, 30, 60}, {"bounds", 2, 0, 9, 0, 60, 0, 60}, {"guards", 3, 0, 10},
        {"guards", 3, 0, 3}, {"of", 3, 0, 9, 0, 7}, {"drop", 5}, {"best", 4}, {"worth", 4}, {"prize", 4},
        {"share", 6, 0, 9}, {"below", 8}, {"put", 8, 0, 9, 0, 60}, {"spare", 3}, {"comes", 4},
        {"handWorth", 4}, {"errs", 4, 0, 3600}, {"errs", 2, 0, 60}, {"lots", 3}, {"team", 5, 0, 10},
        {"chance", 5, 0, 10}, {"road", 8, 0, 9, 0, 9, 1, 100}, {"road", 4, 0, 2, 0, 2, 1, 3},
        {"bar", 4, 0, 15, 0, 1}, {"shortest", 6, 0, 9, 0, 9}, {"bars", 1, 0, 9, 0, 9, 0, 4},
        {"bars", 1, 0, 2, 0, 2, 0, 4}, {"post", 2, 1, 8}, {"every", 3, 0, 4, 1, 8}, {"visit", 8, 0, 1000},
        {"visit", 3, 0, 20}, {"haunt", 4, 1, 1023, 1, 1000}, {"caught", 3, 0, 1023}, {"traps", 1, 0, 10},
        {"cover", 1}, {"sheet", 3, 0, 3, 0, 2, 0, 40}, {"write", 8, 0, 3, 0, 39, 0, 60},
        {"handFrom", 5, 0, 3, 0, 2, 0, 35}, {"keep", 2}, {"back", 2}, {"count", 4, 0, 6}};

    public static void main(String[] args) throws Exception {
        Random random = new Random(29);
        for (int run = 0; run < 250; run++) {
            run(random, run);
        }
        DUE.end();
    }

    private static void run(Random random, int run) throws Exception {
        // Some calls come often in one run and never in another, so that desks fill in many ways.
        int[] weights = new int[CALLS.length];
        for (int i = 0; i < weights.length; i++) {
            weights[i] = (int) CALLS[i][1] * random.nextInt(4);
        }
        int wild = run % 3 == 0 ? 0 : 2 + random.nextInt(10);
        GuardDesk x = new GuardDesk();
        PlainDesk plain = new PlainDesk();
        for (int call = 0; call < 512; call++) {
            Object[] told = CALLS[chosen(random, weights)];
            String name = (String) told[0];
            Method method = method(GuardDesk.class, name);
            Object[] arguments = arguments(random, told, method, wild);
            int got = (int) method.invoke(x, arguments);
            int want = (int) method(PlainDesk.class, name).invoke(plain, arguments);
            DUE.is("run " + run + ", call " + call + ": " + name + Arrays.toString(arguments), got, want);
        }
    }

    private static int chosen(Random random, int[] weights) {
        int at = random.nextInt(Arrays.stream(weights).sum() + 1);
        int i = 0;
        while (i < weights.length - 1 && at >= weights[i]) {
            at -= weights[i];
            i++;
        }
        return i;
    }

    private static Method method(Class<?> type, String name) {
        return Arrays.stream(type.getMethods()).filter(m -> m.getName().equals(name)).findFirst()
            .orElseThrow();
    }

    private static Object[] arguments(Random random, Object[] told, Method method, int wild) {
        Object[] arguments = new Object[method.getParameterCount()];
        for (int i = 0; i < arguments.length; i++) {
            int v = value(random, (int) told[2 + 2 * i], (int) told[3 + 2 * i], wild);
            boolean isFlag = method.getParameterTypes()[i] == boolean.class;
            arguments[i] = isFlag ? (Object) (v > 0) : (Object) v;
        }
        return arguments;
    }

    /** Mostly an ordinary value; of a hundred, as many as told just at, just past or far from the ends. */
    private static int value(Random random, int least, int most, int wild) {
        if (random.nextInt(100) >= wild) {
            return least + random.nextInt(most - least + 1);
        }
        int[] edges = {least - 1, least, most, most + 1, random.nextInt(), Due.FAR[random.nextInt(4)]};
        return edges[random.nextInt(edges.length)];
    }
}
