import java.lang.reflect.InvocationTargetException;
import java.lang.reflect.Method;
import java.lang.reflect.Modifier;
import java.util.Arrays;
import java.util.List;
import java.util.Map;
import java.util.Set;
import java.util.function.Supplier;

/** Any numbers, to any call, in many states: none throws, and each refusal is one that its promise names. */
public final class OreBlocksNeverThrows {
    private static final int[] MANY = {Integer.MIN_VALUE, -1, 0, 1, 2, 3, 4, 5, 9, 10, 11, 16, 20, 30, 31, 32, 62, 63, 999, 1000, 65536, Integer.MAX_VALUE};
    private static final int[] FEW = {Integer.MIN_VALUE, -1, 0, 1, 4, 9, 10, 20, 31, 32, Integer.MAX_VALUE};
    private static final int MANY_PARAMETERS = 3;
    private static final int CALLS_OF_AN_OBJECT = 400;
    private static final List<Supplier<OreBlocks>> STATES = List.of(
        OreBlocks::new, Grounds::three, Grounds::ten, Grounds::square, Grounds::brimful, () -> Grounds.behind(999, 0, 999));
    private static final Map<String, Set<Long>> REFUSALS = Map.ofEntries(
        Map.entry("told", refusals(OreBlocks.OUTSIDE)),
        Map.entry("at", refusals(OreBlocks.UNKNOWN, OreBlocks.OUTSIDE)),
        Map.entry("unlike", refusals(OreBlocks.OUTSIDE)),
        Map.entry("place", refusals(OreBlocks.OUTSIDE)),
        Map.entry("looked", refusals(OreBlocks.OUTSIDE)),
        Map.entry("guess", refusals(OreBlocks.NOTHING, OreBlocks.BEYOND)),
        Map.entry("weight", refusals(OreBlocks.NOTHING, OreBlocks.BEYOND)),
        Map.entry("block", refusals(OreBlocks.NOTHING, OreBlocks.BEYOND)),
        Map.entry("error", refusals(OreBlocks.NOTHING, OreBlocks.NOBODY, OreBlocks.BEYOND)),
        Map.entry("hole", refusals(OreBlocks.OUTSIDE)),
        Map.entry("sample", refusals(OreBlocks.OUTSIDE, OreBlocks.NOT, OreBlocks.FULL)),
        Map.entry("take", refusals(OreBlocks.UNKNOWN)),
        Map.entry("grade", refusals(OreBlocks.UNKNOWN, OreBlocks.OUTSIDE)),
        Map.entry("pieces", refusals(OreBlocks.OUTSIDE)),
        Map.entry("search", refusals(OreBlocks.OUTSIDE)),
        Map.entry("metric", refusals(OreBlocks.OUTSIDE)),
        Map.entry("drift", refusals(OreBlocks.OUTSIDE)),
        Map.entry("undo", refusals(OreBlocks.OUTSIDE, OreBlocks.NOT)),
        Map.entry("write", refusals(OreBlocks.OUTSIDE, OreBlocks.FULL)),
        Map.entry("tear", refusals()),
        Map.entry("seed", refusals(OreBlocks.OUTSIDE)),
        Map.entry("keep", refusals(OreBlocks.UNKNOWN)),
        Map.entry("goBack", refusals(OreBlocks.UNKNOWN, OreBlocks.NOT)));
    private static int wrong = 0;
    private static long made = 0;

    public static void main(String[] args) throws IllegalAccessException {
        int methods = 0;
        for (Method m : OreBlocks.class.getDeclaredMethods()) {
            if (!Modifier.isPublic(m.getModifiers())) continue;
            methods++;
            for (Supplier<OreBlocks> state : STATES) callWithAll(m, state);
        }
        if (methods != REFUSALS.size()) wrong++;
        System.out.println(methods + " methods, " + made + " calls, " + wrong + " not as due");
        if (wrong != 0) System.exit(1);
    }

    private static Set<Long> refusals(long... of) {
        return Set.copyOf(Arrays.stream(of).boxed().toList());
    }

    private static void callWithAll(Method m, Supplier<OreBlocks> state) throws IllegalAccessException {
        int[] values = m.getParameterCount() <= MANY_PARAMETERS ? MANY : FEW;
        int count = m.getParameterCount();
        long all = (long) Math.pow(values.length, count);
        OreBlocks o = state.get();
        for (long row = 0; row < all; row++) {
            if (row % CALLS_OF_AN_OBJECT == 0) o = state.get();
            Object[] arguments = new Object[count];
            long rest = row;
            for (int i = 0; i < count; i++) {
                arguments[i] = values[(int) (rest % values.length)];
                rest /= values.length;
            }
            callOnce(m, o, arguments);
        }
    }

    private static void callOnce(Method m, OreBlocks o, Object[] arguments) throws IllegalAccessException {
        made++;
        try {
            long answer = ((Number) m.invoke(o, arguments)).longValue();
            if (!isCounted(m, answer) && !REFUSALS.get(m.getName()).contains(answer)) {
                tell(m, arguments, "answered " + answer);
            }
        } catch (InvocationTargetException thrown) {
            tell(m, arguments, "threw " + thrown.getCause());
        }
    }

    /** What is counted is no less than NONE; fractions are far from the refusals. */
    private static boolean isCounted(Method m, long answer) {
        return m.getReturnType() == int.class ? answer >= OreBlocks.NONE : Math.abs(answer) < 1000000000000000L;
    }

    private static void tell(Method m, Object[] arguments, String what) {
        wrong++;
        if (wrong <= 20) System.out.println(m.getName() + Arrays.toString(arguments) + " " + what);
    }
}
