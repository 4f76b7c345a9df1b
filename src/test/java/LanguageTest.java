import java.io.IOException;
import java.lang.reflect.Constructor;
import java.lang.reflect.Field;
import java.lang.reflect.Method;
import java.lang.reflect.Modifier;
import java.nio.file.Files;
import java.nio.file.Path;
import java.util.ArrayList;
import java.util.List;
import java.util.Map;
import java.util.Set;
import java.util.TreeMap;
import java.util.TreeSet;
import java.util.regex.Matcher;
import java.util.regex.Pattern;

/** Holds the class against the rules of LANGUAGE.md that can be looked up. */
public final class LanguageTest {
    private static final Path SOURCE = Path.of("src/main/java/SplitRounds.java");
    private static final int LONGEST_METHOD = 60, MOST_PARAMETERS = 7, MOST_FIELDS = 20, MOST_CLASSES = 12;
    private static final int MOST_DEPTH = 8;

    private static final List<String> FACE = List.of("choice", "price", "future", "weight", "part", "join", "local",
            "row", "weigh", "shift", "run", "told", "best", "master", "share", "ask", "answer", "unit", "cut",
            "reason", "judge");

    private LanguageTest() {
    }

    public static void main(String[] args) throws IOException {
        face();
        for (Class<?> each : classes()) {
            members(each);
        }
        Due.holds("at most " + MOST_CLASSES + " classes", classes().size() <= MOST_CLASSES);
        words(Files.readString(SOURCE));
        Map<String, String> bodies = shortMethods(Files.readAllLines(SOURCE));
        for (String name : FACE) {
            Due.holds("calls in " + name + " go at most " + MOST_DEPTH + " deep",
                    bodies.containsKey(name) && depthOf(name, bodies, new TreeSet<>()) <= MOST_DEPTH);
        }
        Due.end();
    }

    private static List<Class<?>> classes() {
        List<Class<?>> all = new ArrayList<>(List.of(SplitRounds.class.getDeclaredClasses()));
        all.add(SplitRounds.class);
        return all;
    }

    private static void face() {
        Class<?> face = SplitRounds.class;
        Due.holds("public and final", Modifier.isPublic(face.getModifiers()) && Modifier.isFinal(face.getModifiers()));
        List<String> names = new ArrayList<>();
        for (Method method : face.getDeclaredMethods()) {
            if (Modifier.isPublic(method.getModifiers())) {
                names.add(method.getName());
                Due.holds(method + " is no static method and answers an int",
                        method.getReturnType() == int.class && !Modifier.isStatic(method.getModifiers()));
            } else {
                Due.holds(method + " is private", Modifier.isPrivate(method.getModifiers()) || method.isSynthetic());
            }
        }
        Due.due("public methods", names.size(), FACE.size());
        Due.holds("the methods of the document", new TreeSet<>(names).equals(new TreeSet<>(FACE)));
        TreeSet<String> constants = new TreeSet<>();
        for (Field field : face.getDeclaredFields()) {
            if (Modifier.isPublic(field.getModifiers())) {
                constants.add(field.getName());
            } else {
                Due.holds(field + " is private", Modifier.isPrivate(field.getModifiers()));
            }
        }
        Due.holds("the constants of the document", constants.equals(new TreeSet<>(List.of("UNKNOWN", "OUTSIDE", "ROOM", "NONE"))));
        Constructor<?>[] constructors = face.getDeclaredConstructors();
        Due.holds("one public constructor of nothing", constructors.length == 1
                && Modifier.isPublic(constructors[0].getModifiers()) && constructors[0].getParameterCount() == 0);
    }

    private static void members(Class<?> each) {
        if (each != SplitRounds.class) {
            Due.holds(each + " is static and not public",
                    Modifier.isStatic(each.getModifiers()) && !Modifier.isPublic(each.getModifiers()));
        }
        int fields = 0;
        for (Field field : each.getDeclaredFields()) {
            fields += Modifier.isStatic(field.getModifiers()) ? 0 : 1;
            Due.holds(field + ": static fields are final",
                    !Modifier.isStatic(field.getModifiers()) || Modifier.isFinal(field.getModifiers()));
        }
        Due.holds(each + " has at most " + MOST_FIELDS + " fields", fields <= MOST_FIELDS);
        for (Method method : each.getDeclaredMethods()) {
            Due.holds(method + " takes few parameters", method.getParameterCount() <= MOST_PARAMETERS);
            Due.holds(method + " has no public method's name",
                    Modifier.isPublic(method.getModifiers()) || !FACE.contains(method.getName()));
        }
    }

    private static String withoutComments(String text) {
        return text.replaceAll("(?s)/\\*.*?\\*/", "").replaceAll("//[^\n]*", "");
    }

    private static void words(String text) {
        String code = withoutComments(text);
        String[] refused = {"throw", "throws", "try", "catch", "synchronized", "assert", "package", "protected", "volatile", "native"};
        for (String word : refused) {
            Due.holds("no word '" + word + "'", !Pattern.compile("\\b" + word + "\\b").matcher(code).find());
        }
        Due.holds("no lambda, no method reference", !code.contains("->") && !code.contains("::"));
        Due.holds("no text", !code.contains("\""));
        Matcher imports = Pattern.compile("(?m)^import ([^;]*);").matcher(code);
        while (imports.find()) {
            Due.holds("import " + imports.group(1), imports.group(1).equals("java.util.Arrays"));
        }
        Matcher calls = Pattern.compile("\\b(Arrays|System|Math|Integer|Long)\\.(\\w+)").matcher(code);
        while (calls.find()) {
            Due.holds("the library's " + calls.group(), List.of("Arrays.fill", "System.arraycopy").contains(calls.group()));
        }
        Matcher made = Pattern.compile("\\bnew (\\w+)").matcher(code);
        while (made.find()) {
            Due.holds("new " + made.group(1), List.of("int", "Choices", "Futures", "Cuts", "Progress", "Part").contains(made.group(1)));
        }
    }

    /** Holds all methods short, and answers their bodies by name (bodies of one name together). */
    private static Map<String, String> shortMethods(List<String> lines) {
        Pattern head = Pattern.compile("^( {4}| {8})(public |private |static )*(\\w+(\\[])? )?(\\w+)\\(.*\\) \\{$");
        Map<String, String> bodies = new TreeMap<>();
        for (int i = 0; i < lines.size(); i++) {
            Matcher matcher = head.matcher(lines.get(i));
            if (matcher.matches() && !List.of("if", "for", "while", "switch").contains(matcher.group(5))) {
                int end = i;
                while (end < lines.size() && !lines.get(end).equals(matcher.group(1) + "}")) {
                    end++;
                }
                Due.holds("line " + (i + 1) + " begins a short method", end < lines.size() && end - i < LONGEST_METHOD);
                bodies.merge(matcher.group(5), withoutComments(String.join("\n", lines.subList(i + 1, end))), String::concat);
            }
        }
        Due.holds("methods were found", bodies.size() > FACE.size());
        return bodies;
    }

    /** How many methods stand open at once, at most, when this one is called; too many, if it is open already. */
    private static int depthOf(String name, Map<String, String> bodies, Set<String> open) {
        if (!open.add(name)) {
            return MOST_DEPTH + 1;
        }
        int deepest = 0;
        Matcher calls = Pattern.compile("\\b(\\w+)\\(").matcher(bodies.get(name));
        while (calls.find()) {
            if (bodies.containsKey(calls.group(1))) {
                deepest = Math.max(deepest, depthOf(calls.group(1), bodies, open));
            }
        }
        open.remove(name);
        return deepest + 1;
    }
}
