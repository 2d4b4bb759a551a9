import java.io.IOException;
import java.lang.reflect.Constructor;
import java.lang.reflect.Field;
import java.lang.reflect.Method;
import java.lang.reflect.Modifier;
import java.nio.file.Files;
import java.nio.file.Path;
import java.util.ArrayList;
import java.util.Arrays;
import java.util.HashSet;
import java.util.List;
import java.util.Map;
import java.util.Set;
import java.util.TreeMap;
import java.util.TreeSet;
import java.util.regex.Matcher;
import java.util.regex.Pattern;

/** The public face of the document, and what of LANGUAGE.md can be seen from the outside. */
public final class LanguageTest {
    private static final Path SOURCE = Path.of("src/main/java/ChairBallot.java");
    private static final String[] CALLS = {
        "int front(int, int, int, int)", "int ofChair(int, int)", "int paint(int, int)", "int load(int, int)",
        "int poll(int)", "int turn(int, int)", "int gust(int, int)", "int rain()", "int open(int)",
        "int day(int, int, int, int, int)", "int swing()", "int blow(int)", "int wards(int, int)",
        "long power(int, int)", "int reading(int, int)", "int back(int)", "int weights(int)", "int kinds(int)",
        "long odds(int, int)", "int sheet(int, int, int)", "int lose(int)", "int put(int, int, int)",
        "long cell(int, int, int)", "int copy(int, int, int, int, int)", "int tell(int)", "int chalk(int)",
        "int as(int, int)", "int trace()", "int fault()", "int many(int)"};
    private static final String[] CONSTANTS = {"int UNKNOWN", "int OUTSIDE", "int STATE", "int FULL", "int NONE",
        "long LOST"};

    private final Due due = new Due("LanguageTest");
    private final List<Class<?>> inside = List.of(ChairBallot.class.getDeclaredClasses());

    public static void main(String[] args) throws IOException {
        LanguageTest test = new LanguageTest();
        test.face();
        test.constants();
        test.classesInside();
        test.members();
        test.source(Files.readString(SOURCE));
        test.due.end();
    }

    private void same(String what, Set<String> got, String... want) {
        Set<String> more = new TreeSet<>(got);
        more.removeAll(Set.of(want));
        Set<String> fewer = new TreeSet<>(Set.of(want));
        fewer.removeAll(got);
        due.isTrue(what + ": more " + more + ", fewer " + fewer, more.isEmpty() && fewer.isEmpty());
    }

    private static String told(Method method) {
        StringBuilder told = new StringBuilder(method.getReturnType() + " " + method.getName() + "(");
        Class<?>[] parameters = method.getParameterTypes();
        for (int p = 0; p < parameters.length; p++) {
            told.append(p == 0 ? "" : ", ").append(parameters[p]);
        }
        return told.append(')').toString();
    }

    private void face() {
        due.promise("the face");
        due.is("modifiers", ChairBallot.class.getModifiers(), Modifier.PUBLIC | Modifier.FINAL);
        Set<String> calls = new HashSet<>();
        Set<String> names = new HashSet<>();
        for (Method method : ChairBallot.class.getDeclaredMethods()) {
            if (!Modifier.isPrivate(method.getModifiers())) {
                due.is("modifiers of " + method, method.getModifiers(), Modifier.PUBLIC);
                calls.add(told(method));
                names.add(method.getName());
            }
        }
        same("calls", calls, CALLS);
        List<Class<?>> all = new ArrayList<>(inside);
        all.add(ChairBallot.class);
        for (Class<?> type : all) {
            for (Method method : type.getDeclaredMethods()) {
                boolean isOfFace = type == ChairBallot.class && Modifier.isPublic(method.getModifiers());
                due.isTrue(method + " bears the name of a public one", isOfFace || !names.contains(method.getName()));
            }
        }
        Constructor<?>[] constructors = ChairBallot.class.getDeclaredConstructors();
        due.is("constructors", constructors.length, 1);
        due.is("its modifiers", constructors[0].getModifiers(), Modifier.PUBLIC);
        due.is("its parameters", constructors[0].getParameterCount(), 0);
    }

    private void constants() {
        due.promise("the constants");
        Set<String> constants = new HashSet<>();
        for (Field field : ChairBallot.class.getDeclaredFields()) {
            if (!Modifier.isPrivate(field.getModifiers())) {
                due.is("modifiers of " + field, field.getModifiers(),
                        Modifier.PUBLIC | Modifier.STATIC | Modifier.FINAL);
                constants.add(field.getType() + " " + field.getName());
            }
        }
        same("constants", constants, CONSTANTS);
        due.is("UNKNOWN", ChairBallot.UNKNOWN, -1);
        due.is("OUTSIDE", ChairBallot.OUTSIDE, -2);
        due.is("STATE", ChairBallot.STATE, -3);
        due.is("FULL", ChairBallot.FULL, -4);
        due.is("NONE", ChairBallot.NONE, -9);
        due.is("LOST", ChairBallot.LOST, Long.MIN_VALUE);
    }

    private void classesInside() {
        due.promise("classes inside");
        due.isTrue("at most twelve classes", inside.size() < 12);
        for (Class<?> type : inside) {
            int modifiers = type.getModifiers();
            due.isTrue(type + " is static", Modifier.isStatic(modifiers));
            due.isTrue(type + " is not public", !Modifier.isPublic(modifiers) && !Modifier.isProtected(modifiers));
            due.is("classes inside " + type, type.getDeclaredClasses().length, 0);
        }
    }

    private void members() {
        due.promise("members");
        List<Class<?>> all = new ArrayList<>(inside);
        all.add(ChairBallot.class);
        for (Class<?> type : all) {
            int fields = 0;
            for (Field field : type.getDeclaredFields()) {
                boolean isStatic = Modifier.isStatic(field.getModifiers());
                fields += isStatic ? 0 : 1;
                due.isTrue(field + " is static and not final", !isStatic || Modifier.isFinal(field.getModifiers()));
                due.isTrue(field + " is static and could change", !isStatic || field.getType().isPrimitive());
            }
            due.isTrue(type + " has some twenty fields at most", fields <= 20);
            for (Method method : type.getDeclaredMethods()) {
                due.isTrue(method + " takes seven parameters at most", method.getParameterCount() <= 7);
                due.isTrue(method + " is a lambda or a bridge", !method.isSynthetic());
            }
        }
    }

    private void source(String source) {
        due.promise("the source");
        due.isTrue("no other sign than 1 to 127", source.chars().allMatch(sign -> sign > 0 && sign < 128));
        String code = source.replaceAll("(?s)/\\*.*?\\*/", "").replaceAll("//[^\n]*", "");
        String[] words = {"throw", "throws", "try", "catch", "finally", "synchronized", "assert", "native", "transient",
            "volatile", "var", "import", "package", "Object", "Exception", "Error", "Thread", "System\\.(?!arraycopy)",
            "\\w+Exact", "getClass", "hashCode", "equals", "toString", "instanceof", "yield", "sealed"};
        for (String word : words) {
            due.isTrue("there is " + word, !Pattern.compile("\\b" + word + "\\b").matcher(code).find());
        }
        for (String sign : new String[] {"->", "::", "@", "\"", "static {", "?>"}) {
            due.isTrue("there is " + sign, !code.contains(sign));
        }
        due.isTrue("lines are short", Arrays.stream(source.split("\n")).allMatch(line -> line.length() <= 120));
        lengthsOfMethods(code);
    }

    private void lengthsOfMethods(String code) {
        Map<String, String> bodies = new TreeMap<>();
        Matcher heads = Pattern.compile("(?m)^( {4}| {8})(?! )[^=;\n(]*?(\\w+)\\([^;\n]*\\) \\{$").matcher(code);
        while (heads.find()) {
            String end = "\n" + heads.group(1) + "}";
            String body = code.substring(heads.start(), code.indexOf(end, heads.start()));
            due.isTrue("some sixty lines at most: " + heads.group().trim(), body.lines().count() <= 60);
            due.isTrue("a name of its own: " + heads.group(2), bodies.put(heads.group(2), body) == null);
        }
        due.isTrue("methods are found: " + bodies.size(), bodies.size() > CALLS.length);
        for (String name : bodies.keySet()) {
            due.isTrue("at most eight deep: " + name, depth(bodies, name, 0) <= 8);
        }
    }

    /** How deep the calls of a method go, itself counted; there is no recursion in the class. */
    private static int depth(Map<String, String> bodies, String name, int above) {
        int deepest = 0;
        Matcher calls = Pattern.compile("(?<!new )\\b(\\w+)\\(").matcher(bodies.get(name));
        while (above < 20 && calls.find()) {
            boolean isOwn = bodies.containsKey(calls.group(1)) && !calls.group(1).equals(name);
            deepest = isOwn ? Math.max(deepest, depth(bodies, calls.group(1), above + 1)) : deepest;
        }
        return deepest + 1;
    }
}
