import java.io.IOException;
import java.lang.reflect.InvocationTargetException;
import java.lang.reflect.Method;
import java.lang.reflect.Modifier;
import java.nio.file.DirectoryStream;
import java.nio.file.Files;
import java.nio.file.Path;
import java.util.Arrays;
import java.util.List;
import java.util.TreeSet;
import java.util.regex.Matcher;
import java.util.regex.Pattern;

/** What README.md says holds: each of its calls has the answer that stands behind it, and each test is named. */
final class ReadmeTest {
    private static final String BEGINNING = "SharedBlocks blocks = new SharedBlocks();";
    private static final Pattern CALL = Pattern.compile("blocks\\.(\\w+)\\((.*)\\); +// (\\w+)(: .+)?");
    private static final Pattern ALONE = Pattern.compile("\\.ci/run (\\w+)");
    private static final List<String> ANSWERS = Arrays.asList("SPOILT", "FULL", "NONE", "BAD");

    private final List<String> lines;
    private final TreeSet<String> called = new TreeSet<>();
    private SharedBlocks own = null;
    private Model model = null;

    private ReadmeTest(List<String> lines) {
        this.lines = lines;
    }

    public static void main(String[] args) throws IOException, ReflectiveOperationException {
        ReadmeTest test = new ReadmeTest(Files.readAllLines(Path.of("README.md")));
        test.calls();
        test.everyCall();
        test.everyTest();
        test.oneAlone();
        Due.end();
    }

    private void calls() throws ReflectiveOperationException {
        String language = "";
        for (int i = 0; i < lines.size(); i++) {
            String line = lines.get(i);
            if (line.startsWith("```")) {
                language = language.isEmpty() ? line.substring(3) : "";
                own = null;
            } else if (language.equals("java")) {
                call("README.md, line " + (i + 1) + ": " + line, line);
            }
        }
        Due.same("blocks that are not closed", language.length(), 0);
    }

    private void call(String name, String line) throws ReflectiveOperationException {
        if (line.equals(BEGINNING)) {
            own = new SharedBlocks();
            model = new Model();
            return;
        }
        Matcher matcher = CALL.matcher(line);
        boolean isCall = matcher.matches();
        Due.holds(name + " is a call with its answer", isCall && own != null);
        Method method = isCall && own != null ? methodOf(matcher.group(1)) : null;
        if (method == null) {
            return;
        }
        called.add(method.getName());
        Object[] values = values(method.getParameterTypes(), matcher.group(2));
        long due = number(matcher.group(3));
        Due.same(name, answer(method, own, values), due);
        Method slow = Model.class.getDeclaredMethod(method.getName(), method.getParameterTypes());
        Due.same(name + " (the model)", answer(slow, model, values), due);
    }

    private static Method methodOf(String name) {
        for (Method method : SharedBlocks.class.getDeclaredMethods()) {
            if (method.getName().equals(name) && Modifier.isPublic(method.getModifiers())) {
                return method;
            }
        }
        Due.holds("the face has " + name, false);
        return null;
    }

    private static Object[] values(Class<?>[] types, String words) {
        String[] parts = words.isEmpty() ? new String[0] : words.split(", ");
        Due.same("values in " + words, parts.length, types.length);
        Object[] values = new Object[types.length];
        for (int i = 0; i < types.length && i < parts.length; i++) {
            if (types[i] == boolean.class) {
                Due.holds(parts[i], parts[i].equals("true") || parts[i].equals("false"));
                values[i] = parts[i].equals("true");
            } else if (types[i] == int.class) {
                values[i] = (int) number(parts[i]);
            } else {
                values[i] = number(parts[i]);
            }
        }
        return values;
    }

    private static long number(String word) {
        if (ANSWERS.contains(word)) {
            return ANSWERS.indexOf(word) - ANSWERS.size();
        }
        String digits = word.endsWith("L") ? word.substring(0, word.length() - 1) : word;
        return digits.startsWith("0x") ? Long.parseUnsignedLong(digits.substring(2), 16) : Long.parseLong(digits);
    }

    private static long answer(Method method, Object on, Object[] values)
            throws IllegalAccessException, InvocationTargetException {
        return ((Number) method.invoke(on, values)).longValue();
    }

    private void everyCall() {
        for (Method method : SharedBlocks.class.getDeclaredMethods()) {
            if (Modifier.isPublic(method.getModifiers())) {
                Due.holds("README.md has a call of " + method.getName(), called.contains(method.getName()));
            }
        }
    }

    private static TreeSet<String> testsUnder(Path directory, String ending) throws IOException {
        TreeSet<String> names = new TreeSet<>();
        try (DirectoryStream<Path> files = Files.newDirectoryStream(directory, "*" + ending)) {
            for (Path file : files) {
                String name = file.getFileName().toString();
                names.add(name.substring(0, name.length() - ".java".length()));
            }
        }
        return names;
    }

    private void everyTest() throws IOException {
        for (String test : testsUnder(Path.of("src", "test", "java"), "Test.java")) {
            boolean named = lines.stream().anyMatch(line -> line.startsWith("- `" + test + "`: "));
            Due.holds("README.md says what " + test + " is for", named);
        }
    }

    private void oneAlone() throws IOException {
        TreeSet<String> known = testsUnder(Path.of("src", "test", "java"), "Test.java");
        int all = 0;
        int alone = 0;
        for (String line : lines) {
            Matcher matcher = ALONE.matcher(line);
            all += line.equals(".ci/run") ? 1 : 0;
            if (matcher.matches()) {
                alone++;
                // Those under ../shared/tests come from elsewhere, and their names may change.
                boolean ours = matcher.group(1).endsWith("Test");
                Due.holds(line + " names a test", !ours || known.contains(matcher.group(1)));
            }
        }
        Due.same("how all tests are run", all, 1);
        Due.holds("how one test is run", alone > 0);
    }
}
