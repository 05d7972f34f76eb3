import java.io.IOException;
import java.lang.reflect.InvocationTargetException;
import java.lang.reflect.Method;
import java.nio.file.Files;
import java.nio.file.Path;
import java.util.Arrays;
import java.util.Comparator;
import java.util.List;
import java.util.Set;
import java.util.TreeSet;
import java.util.function.IntToLongFunction;

/** Runs the tests of a class that extends it, one for each sentence, and tells which do not hold. */
abstract class Sentences {
    static final int NONE = -1, UNKNOWN = -1000000001, OUTSIDE = -1000000002, NOT = -1000000003, FULL = -1000000004;
    static final long NOTHING = -4000000000000000000L, NOBODY = -4000000000000000001L, BEYOND = -4000000000000000002L;
    static final int LEAST = Integer.MIN_VALUE, GREATEST = Integer.MAX_VALUE;

    private static final int ROWS_PRINTED = 5;
    private static final Path DOCUMENT = Path.of("../shared/DOC.md");
    private static final Set<Long> REFUSALS = Set.of((long) UNKNOWN, (long) OUTSIDE, (long) NOT, (long) FULL, NOBODY, BEYOND);
    private static int asked = 0;
    private static int wrong = 0;

    /** Each promise named must have a test. */
    static void run(Class<?> tests, int firstPromise, int lastPromise) throws IOException, IllegalAccessException {
        String[] parts = readParts();
        Set<Integer> met = new TreeSet<>();
        int passed = 0;
        int failed = 0;
        for (Method test : testsOf(tests)) {
            Sentence sentence = test.getAnnotation(Sentence.class);
            met.add(sentence.promise());
            if (holds(test) & stands(sentence, parts)) passed++;
            else failed++;
        }
        for (int promise = firstPromise; promise <= lastPromise; promise++) {
            if (met.contains(promise)) continue;
            failed++;
            System.out.println("no test of promise " + promise);
        }
        System.out.println(passed + " passed, " + failed + " failed");
        if (failed != 0) System.exit(1);
    }

    private static List<Method> testsOf(Class<?> tests) {
        return Arrays.stream(tests.getDeclaredMethods())
            .filter(m -> m.isAnnotationPresent(Sentence.class))
            .sorted(Comparator.comparingInt((Method m) -> m.getAnnotation(Sentence.class).promise()).thenComparing(Method::getName))
            .toList();
    }

    private static boolean holds(Method test) throws IllegalAccessException {
        asked = 0;
        wrong = 0;
        try {
            test.setAccessible(true);
            test.invoke(null);
        } catch (InvocationTargetException thrown) {
            wrong++;
            System.out.println(test.getName() + ": " + Arrays.toString(thrown.getCause().getStackTrace()) + " threw " + thrown.getCause());
        }
        if (asked == 0) System.out.println(test.getName() + " asks nothing");
        if (wrong != 0) System.out.println("not so, promise " + test.getAnnotation(Sentence.class).promise() + ": " + test.getAnnotation(Sentence.class).value());
        return wrong == 0 && asked != 0;
    }

    /** A test of words that the document does not say holds the class to nothing. */
    private static boolean stands(Sentence sentence, String[] parts) {
        boolean found = parts[sentence.promise()].contains(sentence.value());
        if (!found) System.out.println("the document does not say, in promise " + sentence.promise() + ": " + sentence.value());
        return found;
    }

    static String[] readParts() throws IOException {
        String[] parts = Files.readString(DOCUMENT).replaceAll("\\s+", " ").split("## (Promise \\d+:|Not promised)");
        if (parts.length != 26) throw new IllegalStateException("the document has " + (parts.length - 2) + " promises, not 24");
        return parts;
    }

    static void due(long got, long want) {
        asked++;
        if (got == want) return;
        wrong++;
        if (wrong <= ROWS_PRINTED) System.out.println(callerOfThis() + ": answered " + got + ", due is " + want);
    }

    private static String callerOfThis() {
        return StackWalker.getInstance().walk(frames -> frames
            .filter(f -> !f.getClassName().equals("Sentences")).findFirst().map(Object::toString).orElse(""));
    }

    /** Answers from number 0 on, one behind the other. */
    static void dueEach(IntToLongFunction call, long... want) {
        for (int i = 0; i < want.length; i++) due(call.applyAsLong(i), want[i]);
    }

    /** Refused just out of the bounds and far out of them, and not at the bounds themselves. */
    static void dueBounds(IntToLongFunction call, int least, int greatest, long refusal) {
        due(isRefused(call.applyAsLong(least)) ? 1 : 0, 0);
        due(isRefused(call.applyAsLong(greatest)) ? 1 : 0, 0);
        due(call.applyAsLong(least - 1), refusal);
        due(call.applyAsLong(LEAST), refusal);
        if (greatest == GREATEST) return;
        due(call.applyAsLong(greatest + 1), refusal);
        due(call.applyAsLong(GREATEST), refusal);
    }

    static boolean isRefused(long answer) {
        return REFUSALS.contains(answer);
    }
}
