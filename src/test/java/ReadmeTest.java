import java.io.IOException;
import java.lang.reflect.InvocationTargetException;
import java.lang.reflect.Method;
import java.lang.reflect.Modifier;
import java.nio.file.Files;
import java.nio.file.Path;
import java.util.HashSet;
import java.util.List;
import java.util.Set;
import java.util.regex.Matcher;
import java.util.regex.Pattern;

/** Plays the calls that README.md shows, and holds what they answer against what stands behind them. */
public final class ReadmeTest {
    private static final Path README = Path.of("README.md");
    private static final Pattern CALL = Pattern.compile("^x\\.(\\w+)\\((.*)\\); *(// (-?\\w+).*)?$");
    private static final Pattern TABLE_LINE = Pattern.compile("^\\| `(\\w+)\\((.*?)\\)` \\|.*$");

    private static final SplitRounds x = new SplitRounds();

    private ReadmeTest() {
    }

    public static void main(String[] args) throws IOException, IllegalAccessException, InvocationTargetException {
        Set<String> inTables = new HashSet<>();
        int played = 0;
        for (String line : Files.readAllLines(README)) {
            Matcher call = CALL.matcher(line);
            if (call.matches()) {
                play(line, call);
                played++;
            }
            Matcher told = TABLE_LINE.matcher(line);
            if (told.matches()) {
                inTables.add(told.group(1) + "/" + argumentsOf(told.group(2)).size());
            }
        }
        Due.holds("README.md shows calls", played > 20);
        Set<String> face = new HashSet<>();
        for (Method method : SplitRounds.class.getDeclaredMethods()) {
            if (Modifier.isPublic(method.getModifiers())) {
                face.add(method.getName() + "/" + method.getParameterCount());
            }
        }
        Due.holds("README.md tells all calls " + face + ", it has " + inTables, face.equals(inTables));
        Due.end();
    }

    private static void play(String line, Matcher call) throws IllegalAccessException, InvocationTargetException {
        List<String> arguments = argumentsOf(call.group(2));
        for (Method method : SplitRounds.class.getDeclaredMethods()) {
            if (method.getName().equals(call.group(1)) && method.getParameterCount() == arguments.size()) {
                Object[] values = arguments.stream().map(ReadmeTest::valueOf).toArray();
                int got = (Integer) method.invoke(x, values);
                Due.holds("README.md tells what is answered: " + line, call.group(4) != null);
                Due.due("README.md: " + line, got, call.group(4) == null ? got : (Integer) valueOf(call.group(4)));
                return;
            }
        }
        Due.holds("README.md shows a call that there is: " + line, false);
    }

    private static List<String> argumentsOf(String text) {
        return text.isEmpty() ? List.of() : List.of(text.split(", *"));
    }

    private static Object valueOf(String word) {
        switch (word) {
            case "true": return true;
            case "false": return false;
            case "UNKNOWN": return SplitRounds.UNKNOWN;
            case "SplitRounds.NONE": return SplitRounds.NONE;
            default: return Integer.valueOf(word);
        }
    }
}
