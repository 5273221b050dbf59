import java.io.IOException;
import java.io.UncheckedIOException;
import java.lang.reflect.InvocationTargetException;
import java.lang.reflect.Method;
import java.lang.reflect.Modifier;
import java.nio.file.Files;
import java.nio.file.Path;
import java.util.ArrayList;
import java.util.List;
import java.util.Set;
import java.util.TreeSet;
import java.util.regex.Matcher;
import java.util.regex.Pattern;
import java.util.stream.Stream;

/** What README.md says is so: its examples answer what it says, and it names every call. */
public final class ReadmeTest {
    private static final String NEW_OBJECT = "MerkleLog log = new MerkleLog();";
    private static final Pattern CALL = Pattern.compile("log\\.(\\w+)\\(([-\\d, ]*)\\);(?: +// (-?\\d+)\\b.*)?");
    private static final Pattern ROW = Pattern.compile("\\| `(\\w+)\\(.*");
    private static final Pattern TEST = Pattern.compile("`(\\w+Test)`");
    private static final Check check = new Check();

    private final Set<String> called = new TreeSet<>();
    private MerkleLog log = new MerkleLog();

    public static void main(String[] args) {
        check.test("README.md: the examples answer what it says", ReadmeTest::examples);
        check.test("README.md: the table has every call and no other", ReadmeTest::table);
        check.test("README.md: the tests that it names are there", ReadmeTest::tests);
        check.finish();
    }

    private static void examples() {
        ReadmeTest reader = new ReadmeTest();
        for (String line : exampleLines()) {
            reader.make(line);
        }
        check.holds("every call is in an example, not only " + reader.called, reader.called.equals(publicCalls()));
    }

    private static List<String> exampleLines() {
        List<String> found = new ArrayList<>();
        boolean inside = false;
        for (String line : lines()) {
            if (line.startsWith("```")) {
                inside = line.equals("```java");
            } else if (inside) {
                found.add(line);
            }
        }
        return found;
    }

    private void make(String line) {
        if (line.equals(NEW_OBJECT)) {
            log = new MerkleLog();
            return;
        }
        Matcher call = CALL.matcher(line);
        check.holds("the line '" + line + "' is a call with its answer behind it", call.matches());
        if (call.matches()) {
            called.add(call.group(1));
            // Of a call that answers nothing, reflection says null.
            String answer = String.valueOf(answer(call.group(1), call.group(2)));
            check.holds("'" + line + "', answered " + answer + ",", answer.equals(String.valueOf(call.group(3))));
        }
    }

    private Object answer(String name, String list) {
        Object[] numbers = Stream.of(list.split(", *")).filter(text -> !text.isEmpty())
            .map(Integer::valueOf).toArray();
        Class<?>[] kinds = Stream.of(numbers).map(number -> int.class).toArray(Class<?>[]::new);
        try {
            return MerkleLog.class.getMethod(name, kinds).invoke(log, numbers);
        } catch (NoSuchMethodException | IllegalAccessException | InvocationTargetException thrown) {
            return thrown;
        }
    }

    private static void table() {
        Set<String> rows = new TreeSet<>();
        for (String line : lines()) {
            Matcher row = ROW.matcher(line);
            if (row.matches()) {
                rows.add(row.group(1));
            }
        }
        check.holds("the table's calls " + rows + " are all there are", rows.equals(publicCalls()));
    }

    private static void tests() {
        for (String line : lines()) {
            Matcher test = TEST.matcher(line);
            while (test.find()) {
                Path file = Path.of("src/test/java", test.group(1) + ".java");
                check.holds("there is a " + file, Files.exists(file));
            }
        }
    }

    private static Set<String> publicCalls() {
        Set<String> calls = new TreeSet<>();
        for (Method method : MerkleLog.class.getDeclaredMethods()) {
            if (Modifier.isPublic(method.getModifiers())) {
                calls.add(method.getName());
            }
        }
        return calls;
    }

    /** The path is from the project's root, where .ci/run runs the tests. */
    private static List<String> lines() {
        try {
            return Files.readAllLines(Path.of("README.md"));
        } catch (IOException thrown) {
            throw new UncheckedIOException(thrown);
        }
    }
}
