import java.lang.reflect.Constructor;
import java.lang.reflect.Field;
import java.lang.reflect.Method;
import java.lang.reflect.Modifier;
import java.nio.file.Files;
import java.nio.file.Path;
import java.util.Arrays;
import java.util.Map;
import java.util.Set;
import java.util.TreeMap;
import java.util.TreeSet;
import java.util.regex.Matcher;
import java.util.regex.Pattern;

/** The class has the document's face and no more, and keeps to rules that its source shows. */
public final class OreBlocksFace {
    private static final String[] METHODS = {
        "int told(int)", "int at(int, int)", "int unlike(int)", "int place(int, int, int)",
        "int looked(int, int, int)", "long guess(int, int, int)", "long weight(int, int, int, int)",
        "long block(int, int, int)", "long error(int, int)", "int hole(int, int, int, int)",
        "int sample(int, int, int)", "int take(int)", "int grade(int, int)",
        "int pieces(int, int, int, int, int)", "int search(int, int, int)", "int metric(int)",
        "int drift(int)", "int undo(int)", "int write(int, int, int)", "int tear()", "int seed(int)",
        "int keep(int)", "int goBack(int)"
    };
    private static final String[] CONSTANTS = {
        "int NONE -1", "int UNKNOWN -1000000001", "int OUTSIDE -1000000002", "int NOT -1000000003",
        "int FULL -1000000004", "long NOTHING -4000000000000000000", "long NOBODY -4000000000000000001",
        "long BEYOND -4000000000000000002"
    };
    private static int wrong = 0;

    public static void main(String[] args) throws Exception {
        checkClass();
        checkMethods();
        checkConstants();
        checkNested();
        checkDocumentsFace(Files.readString(Path.of("../shared/DOC.md")), Files.readString(Path.of("src/main/java/OreBlocks.java")));
        checkSource(Files.readString(Path.of("src/main/java/OreBlocks.java")));
        System.out.println(wrong == 0 ? "the face is as due" : wrong + " wrong");
        if (wrong != 0) System.exit(1);
    }

    private static void due(boolean holds, String what) {
        if (!holds) {
            wrong++;
            System.out.println("not so: " + what);
        }
    }

    private static void checkClass() {
        int m = OreBlocks.class.getModifiers();
        due(Modifier.isPublic(m) && Modifier.isFinal(m), "the class is public and final");
        Constructor<?>[] all = OreBlocks.class.getDeclaredConstructors();
        due(all.length == 1 && Modifier.isPublic(all[0].getModifiers()) && all[0].getParameterCount() == 0, "one public constructor");
    }

    private static void checkMethods() {
        Set<String> found = new TreeSet<>();
        for (Method m : OreBlocks.class.getDeclaredMethods()) {
            if (Modifier.isPrivate(m.getModifiers())) {
                due(!isPublicName(m.getName()), "no private method is called " + m.getName());
                continue;
            }
            due(Modifier.isPublic(m.getModifiers()) && !Modifier.isStatic(m.getModifiers()), m + " is public and of the object");
            String types = Arrays.toString(m.getParameterTypes());
            found.add(m.getReturnType() + " " + m.getName() + "(" + types.substring(1, types.length() - 1) + ")");
        }
        Set<String> want = new TreeSet<>(Arrays.asList(METHODS));
        due(found.equals(want), "the methods are " + want + ", found " + found);
    }

    private static boolean isPublicName(String name) {
        for (String m : METHODS) if (m.contains(" " + name + "(")) return true;
        return false;
    }

    private static void checkConstants() throws IllegalAccessException {
        Set<String> found = new TreeSet<>();
        for (Field f : OreBlocks.class.getDeclaredFields()) {
            int m = f.getModifiers();
            if (Modifier.isStatic(m)) due(Modifier.isFinal(m), f + " is final");
            if (Modifier.isPrivate(m)) continue;
            due(Modifier.isPublic(m) && Modifier.isStatic(m) && Modifier.isFinal(m), f + " is a public constant");
            found.add(f.getType() + " " + f.getName() + " " + f.get(null));
        }
        Set<String> want = new TreeSet<>(Arrays.asList(CONSTANTS));
        due(found.equals(want), "the constants are " + want + ", found " + found);
    }

    private static void checkNested() {
        Class<?>[] nested = OreBlocks.class.getDeclaredClasses();
        due(nested.length <= 12, "some twelve classes at most");
        for (Class<?> c : nested) {
            due(Modifier.isStatic(c.getModifiers()) && !Modifier.isPublic(c.getModifiers()), c + " is static and not public");
            for (Field f : c.getDeclaredFields()) {
                if (Modifier.isStatic(f.getModifiers())) due(Modifier.isFinal(f.getModifiers()), f + " is final");
            }
            for (Method m : c.getDeclaredMethods()) {
                due(m.getParameterCount() <= 7, m + " has seven parameters at most");
                due(!isPublicName(m.getName()), m + " is not called as a public one");
            }
        }
    }

    /** Each line of the document's face stands in the source, by the names of its parameters too, in its order. */
    private static void checkDocumentsFace(String document, String source) {
        Matcher face = Pattern.compile("```java\\n(.*?)```", Pattern.DOTALL).matcher(document);
        due(face.find(), "the document tells a face");
        int from = 0;
        int lines = 0;
        for (String line : face.group(1).split("\n")) {
            String told = line.trim();
            if (told.equals("}")) continue;
            String want = told.endsWith(");") ? told.substring(0, told.length() - 1) + " {" : told;
            int found = source.indexOf(want, from);
            due(found >= 0, "in its order the source says: " + want);
            from = Math.max(from, found);
            lines++;
        }
        due(lines == 1 + 2 + 1 + METHODS.length, "the face is the class, two lines of constants, the constructor, the methods, not " + lines + " lines");
    }

    private static void checkSource(String source) {
        String code = source.replaceAll("(?s)/\\*.*?\\*/", " ").replaceAll("//[^\n]*", " ");
        for (String word : new String[] {"throw", "throws", "try", "catch", "finally", "synchronized", "assert", "import", "package", "protected", "double", "float", "Random", "Thread"}) {
            due(!Pattern.compile("\\b" + word + "\\b").matcher(code).find(), "the source has no " + word);
        }
        due(!code.contains("->") && !code.contains("::"), "no lambda, no method reference");
        due(!Pattern.compile("\\w+Exact\\b").matcher(code).find(), "nothing of Math that ends in Exact");
        due(!Pattern.compile("\\bwhile\\b").matcher(code).find(), "each loop has a counter");
        Matcher library = Pattern.compile("\\b(System|Math|Integer|Long|Arrays|String)\\.(\\w+)").matcher(code);
        Set<String> allowed = Set.of("System.arraycopy", "Math.abs", "Math.max", "Math.min", "Math.floorMod");
        while (library.find()) due(allowed.contains(library.group()), library.group() + " is in the part of the library that is used");
        checkNothingIsMadeInCalls(code);
        checkDepth(code);
    }

    /** Names are enough to follow calls by: no two methods share one. */
    private static void checkDepth(String code) {
        Map<String, Set<String>> calls = new TreeMap<>();
        Matcher method = Pattern.compile("\\n( +)[\\w ]*?\\b(\\w+)\\([^;{}()]*\\) \\{\\n(.*?)\\n\\1\\}", Pattern.DOTALL).matcher(code);
        while (method.find()) {
            String name = method.group(2), body = method.group(3);
            due(!calls.containsKey(name), "one method alone is called " + name);
            due(body.split("\n").length <= 60, name + " is short");
            Set<String> called = calls.computeIfAbsent(name, n -> new TreeSet<>());
            Matcher call = Pattern.compile("\\b(\\w+)\\(").matcher(body);
            while (call.find()) if (!call.group(1).matches("if|for|switch")) called.add(call.group(1));
        }
        due(calls.size() > 60, "methods are found, not " + calls.size());
        for (String name : calls.keySet()) due(depth(name, calls, 0) <= 8, name + " goes eight deep at most");
    }

    private static int depth(String name, Map<String, Set<String>> calls, int above) {
        int deepest = 0;
        if (above > 20) return 1;
        for (String called : calls.getOrDefault(name, Set.of())) deepest = Math.max(deepest, depth(called, calls, above + 1));
        return deepest + 1;
    }

    /** Room is one for all calls: what is made is made for a field, or in a constructor. */
    private static void checkNothingIsMadeInCalls(String code) {
        String calls = code.replaceAll("(?s)\\n    public OreBlocks\\(\\) \\{.*?\\n    \\}", "").replaceAll("(?s)\\n        History\\(\\) \\{.*?\\n        \\}", "");
        for (String line : calls.split("\n")) {
            if (line.contains("new ")) due(line.trim().matches("(private )?final .*;"), "nothing is made in a call: " + line.trim());
        }
    }
}
