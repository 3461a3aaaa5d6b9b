import java.lang.reflect.Method;
import java.lang.reflect.Modifier;
import java.nio.file.Files;
import java.nio.file.Path;
import java.util.List;
import java.util.Set;
import java.util.TreeSet;
import java.util.regex.Matcher;
import java.util.regex.Pattern;

/** The examples of README.md answer what stands behind them; its tables of codes and constants are right. */
public final class ReadmeTest {
    private static final Pattern NEW = Pattern.compile("CspRefiner x = new CspRefiner\\(\\);");
    private static final Pattern CALL = Pattern.compile(
        "(?:System\\.out\\.println\\()?x\\.(\\w+)\\(([-0-9, ]*)\\)\\)?; +// (-?\\w+)(?::.*)?");
    private static final Pattern CODE = Pattern.compile("\\| (\\(empty\\)|[012](?: [012])*) \\| (\\d+) \\|");
    private static final Pattern CONSTANT = Pattern.compile("\\| `CspRefiner\\.(\\w+)` \\| (-\\d+) \\|.*");
    private static final int CALL_LIMIT = 512;

    private static final Check CHECK = new Check();
    private static final Set<String> NAMES_CALLED = new TreeSet<>();

    private static CspRefiner x;
    private static int calls;

    public static void main(String[] args) throws Exception {
        List<String> lines = Files.readAllLines(Path.of("README.md"));
        examples(lines);
        everyMethodHasAnExample();
        codes(lines);
        constants(lines);
        CHECK.end("ReadmeTest");
    }

    private static void examples(List<String> lines) throws Exception {
        for (String line : lines) {
            String text = line.strip();
            if (NEW.matcher(text).matches()) {
                x = new CspRefiner();
                calls = 0;
            } else if (text.startsWith("x.") || text.startsWith("System.out.println(")) {
                example(text);
            }
        }
    }

    private static void example(String text) throws Exception {
        Matcher call = CALL.matcher(text);
        boolean readable = call.matches() && x != null;
        CHECK.due("is a call on an object with its answer: " + text, readable, true);
        if (readable) {
            calls++;
            CHECK.due("is within the object's 512 calls: " + text, calls <= CALL_LIMIT, true);
            NAMES_CALLED.add(call.group(1));
            CHECK.due(text, answer(call.group(1), call.group(2)), told(call.group(3)));
        }
    }

    private static long answer(String name, String arguments) throws Exception {
        String[] parts = arguments.isEmpty() ? new String[0] : arguments.split(", ");
        Object[] values = new Object[parts.length];
        Class<?>[] types = new Class<?>[parts.length];
        for (int n = 0; n < parts.length; n++) {
            values[n] = Integer.valueOf(parts[n]);
            types[n] = int.class;
        }
        Method method = CspRefiner.class.getMethod(name, types);
        Object got = method.invoke(x, values);
        return got instanceof Boolean ? ((Boolean) got ? 1 : 0) : (Integer) got;
    }

    private static long told(String word) throws Exception {
        if (word.equals("true") || word.equals("false")) {
            return word.equals("true") ? 1 : 0;
        }
        if (Character.isLetter(word.charAt(0))) {
            return CspRefiner.class.getField(word).getInt(null);
        }
        return Long.parseLong(word);
    }

    private static void everyMethodHasAnExample() {
        for (Method method : CspRefiner.class.getDeclaredMethods()) {
            if (Modifier.isPublic(method.getModifiers())) {
                CHECK.due("has an example: " + method.getName(), NAMES_CALLED.contains(method.getName()), true);
            }
        }
    }

    private static void codes(List<String> lines) {
        int rows = 0;
        for (String line : lines) {
            Matcher row = CODE.matcher(line);
            if (row.matches()) {
                rows++;
                CHECK.due(line, logOf(row.group(1)), Long.parseLong(row.group(2)));
            }
        }
        CHECK.due("there are words with their codes", rows > 0, true);
    }

    /** The code that the class has for a word, asked of a system that can do every word. */
    private static long logOf(String word) {
        CspRefiner any = new CspRefiner();
        any.pre(0, 0);
        any.pre(1, 0);
        any.ext();
        any.pre(2, 0);
        any.ext();
        any.define(0);
        if (!word.equals("(empty)")) {
            for (String event : word.split(" ")) {
                any.feed(Integer.parseInt(event));
            }
        }
        return any.log();
    }

    private static void constants(List<String> lines) throws Exception {
        Set<String> seen = new TreeSet<>();
        for (String line : lines) {
            Matcher row = CONSTANT.matcher(line);
            if (row.matches()) {
                seen.add(row.group(1));
                CHECK.due(line, told(row.group(1)), Long.parseLong(row.group(2)));
            }
        }
        CHECK.due("the four constants " + seen, seen.equals(Set.of("BAD_ARG", "FULL", "TOO_FEW", "NONE")), true);
    }
}
