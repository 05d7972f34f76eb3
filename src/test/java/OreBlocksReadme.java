import java.lang.reflect.Method;
import java.lang.reflect.Modifier;
import java.nio.file.Files;
import java.nio.file.Path;
import java.util.Arrays;
import java.util.Map;
import java.util.Set;
import java.util.TreeMap;
import java.util.TreeSet;
import java.util.regex.Matcher;
import java.util.regex.Pattern;

/** The examples of README.md answer what it says; it shows every call, and tells every call's parameters. */
public final class OreBlocksReadme {
    private static final Pattern BLOCK = Pattern.compile("```java\\n(.*?)```", Pattern.DOTALL);
    private static final Pattern CALL = Pattern.compile("ore\\.(\\w+)\\(([-\\d, ]*)\\); +// (-?\\d+|[A-Z]+)(:.*)?");
    private static final Pattern ROW = Pattern.compile("\\| `(\\w+)\\(([\\w, ]*)\\)` \\|");
    private static final Map<String, Method> METHODS = new TreeMap<>();
    private static int wrong = 0;

    public static void main(String[] args) throws Exception {
        for (Method m : OreBlocks.class.getDeclaredMethods()) if (Modifier.isPublic(m.getModifiers())) METHODS.put(m.getName(), m);
        String page = Files.readString(Path.of("README.md"));
        checkExamples(page);
        checkTable(page);
        due(page.contains(".ci/run"), "the page says how to run the tests");
        System.out.println(wrong == 0 ? "the page is as due" : wrong + " wrong");
        if (wrong != 0) System.exit(1);
    }

    private static void due(boolean holds, String what) {
        if (holds) return;
        wrong++;
        System.out.println("not so: " + what);
    }

    private static void checkExamples(String page) throws Exception {
        OreBlocks ore = null;
        Set<String> shown = new TreeSet<>();
        Matcher block = BLOCK.matcher(page);
        while (block.find()) {
            for (String line : block.group(1).split("\n")) {
                if (line.equals("OreBlocks ore = new OreBlocks();")) {
                    ore = new OreBlocks();
                    continue;
                }
                Matcher call = CALL.matcher(line);
                due(call.matches() && METHODS.containsKey(call.group(1)), "a call with its answer: " + line);
                if (!call.matches() || !METHODS.containsKey(call.group(1))) continue;
                shown.add(call.group(1));
                long got = answer(ore, METHODS.get(call.group(1)), call.group(2));
                due(got == number(call.group(3)), line + " (answered " + got + ")");
            }
        }
        due(shown.equals(METHODS.keySet()), "every call is shown, not only " + shown);
    }

    private static long answer(OreBlocks ore, Method m, String arguments) throws Exception {
        Object[] values = arguments.isEmpty() ? new Object[0] : Arrays.stream(arguments.split(", ")).map(Integer::valueOf).toArray();
        return ((Number) m.invoke(ore, values)).longValue();
    }

    private static long number(String told) throws Exception {
        if (!told.matches("[A-Z]+")) return Long.parseLong(told);
        return ((Number) OreBlocks.class.getField(told).get(null)).longValue();
    }

    private static void checkTable(String page) {
        Set<String> rows = new TreeSet<>();
        Matcher row = ROW.matcher(page);
        while (row.find()) {
            rows.add(row.group(1));
            int parameters = row.group(2).isEmpty() ? 0 : row.group(2).split(", ").length;
            due(METHODS.containsKey(row.group(1)) && METHODS.get(row.group(1)).getParameterCount() == parameters, "a call of the class: " + row.group());
        }
        due(rows.equals(METHODS.keySet()), "the table has every call, not only " + rows);
    }
}
