import java.lang.reflect.InvocationTargetException;
import java.lang.reflect.Method;
import java.util.ArrayList;
import java.util.Arrays;
import java.util.Comparator;
import java.util.List;
import java.util.Random;
import java.util.TreeMap;

/**
 * Rule 7 of LANGUAGE.md: no call throws, for any arguments in any state. Calls of the whole face in no order at all,
 * with arguments that no plan has chosen, each answer compared with that of the model.
 */
public final class AnyCallsTest {
    private static final Due due = new Due();
    private static final int RUNS = 1500, CALLS = 512;
    private static final int[] FAR_INTS = {Integer.MIN_VALUE, Integer.MIN_VALUE + 1, -65536, -17, 9, 15, 16, 17, 40, 63, 64, 65,
        99, 100, 1000, 65536, Integer.MAX_VALUE - 1, Integer.MAX_VALUE};
    private static final long[] FAR_LONGS = {Long.MIN_VALUE, Long.MIN_VALUE + 1, -1L << 32, Integer.MIN_VALUE, -129, -9, -8, 127,
        128, 255, 256, 65535, 65536, Integer.MAX_VALUE, 1L << 32, (1L << 32) + 1, 0x7f800001L, 0x7ff0000000000001L,
        0x3fc00000L, 0x3ff8000000000000L, 0x6100, 0x6161, Long.MAX_VALUE - 1, Long.MAX_VALUE};

    private static final Method[] CALLS_OF_FACE = face();
    private static final TreeMap<String, Integer> SEEN = new TreeMap<>();

    public static void main(String[] args) throws ReflectiveOperationException {
        int runs = args.length > 0 ? Integer.parseInt(args[0]) : RUNS;
        for (int seed = 1; seed <= runs; seed++) {
            if (!run(new Random(seed), seed)) break;
        }
        for (String each : List.of("make ok", "keep ok", "load ok", "load -16", "build ok", "same 1")) {
            due.holds("some run came to " + each, SEEN.containsKey(each));
        }
        if (args.length > 1) SEEN.forEach((what, times) -> System.out.println(what + ": " + times));
        due.end();
    }

    /** In one order everywhere: reflection promises none. */
    private static Method[] face() {
        List<Method> all = new ArrayList<>();
        for (Method each : FamilyFields.class.getMethods()) {
            if (each.getDeclaringClass() == FamilyFields.class) all.add(each);
        }
        all.sort(Comparator.comparing(Method::getName));
        return all.toArray(new Method[0]);
    }

    private static boolean run(Random random, int seed) throws ReflectiveOperationException {
        FamilyFields fields = new FamilyFields();
        Model model = new Model();
        // Once there are objects types change no more: a run that made some at once would come to little.
        int withoutObjects = random.nextInt(250);
        int[] ahead = weights(false, random), later = weights(true, random);
        for (int i = 0; i < CALLS; i++) {
            Method call = CALLS_OF_FACE[pick(i < withoutObjects ? ahead : later, random)];
            Object[] arguments = arguments(call, random);
            String told = "run " + seed + ", call " + i + ": " + call.getName() + Arrays.toString(arguments);
            long want = answer(Model.class.getDeclaredMethod(call.getName(), call.getParameterTypes()), model, arguments);
            long got;
            try {
                got = answer(call, fields, arguments);
            } catch (InvocationTargetException thrown) {
                due.holds(told + " threw " + thrown.getCause(), false);
                return false;
            }
            due.is(told, got, want);
            if (got != want) return false;
            boolean tells = want < 0 && want > -30 || call.getName().equals("same");
            SEEN.merge(call.getName() + " " + (tells ? want : "ok"), 1, Integer::sum);
        }
        return true;
    }

    private static int[] weights(boolean withObjects, Random random) {
        int[] weights = new int[CALLS_OF_FACE.length];
        for (int i = 0; i < weights.length; i++) weights[i] = weight(CALLS_OF_FACE[i].getName(), withObjects, random);
        return weights;
    }

    private static int weight(String call, boolean withObjects, Random random) {
        switch (call) {
            case "make": return withObjects ? 20 + random.nextInt(60) : 0;
            case "give": return withObjects ? 20 + random.nextInt(60) : 1;
            case "keep":
            case "load": return 5 + random.nextInt(30);
            case "constant":
            case "part":
            case "permit":
            case "check": return withObjects ? random.nextInt(9) : 20 + random.nextInt(60);
            case "becomes": return random.nextInt(20);
            case "build": return random.nextInt(8);
            default: return random.nextInt(9);
        }
    }

    private static int pick(int[] weights, Random random) {
        int at = random.nextInt(Arrays.stream(weights).sum());
        int i = 0;
        while (at >= weights[i]) at -= weights[i++];
        return i;
    }

    private static long answer(Method call, Object on, Object[] arguments) throws ReflectiveOperationException {
        return ((Number) call.invoke(on, arguments)).longValue();
    }

    private static Object[] arguments(Method call, Random random) {
        Class<?>[] types = call.getParameterTypes();
        Object[] all = new Object[types.length];
        for (int i = 0; i < types.length; i++) {
            if (types[i] == boolean.class) all[i] = random.nextBoolean();
            else if (types[i] == int.class) all[i] = anInt(random);
            else all[i] = aLong(random);
        }
        return all;
    }

    private static int anInt(Random random) {
        int kind = random.nextInt(20);
        if (kind == 0) return FAR_INTS[random.nextInt(FAR_INTS.length)];
        return kind < 12 ? random.nextInt(2) : random.nextInt(14) - 2;
    }

    /** A small number is no name, a letter is fine as either. */
    private static long aLong(Random random) {
        int kind = random.nextInt(20);
        if (kind == 0) return FAR_LONGS[random.nextInt(FAR_LONGS.length)];
        return kind < 10 ? random.nextInt(4) - 1 : 'a' + random.nextInt(4);
    }
}
