import java.io.IOException;
import java.lang.reflect.InvocationTargetException;
import java.lang.reflect.Method;
import java.nio.file.Files;
import java.nio.file.Path;
import java.util.List;
import java.util.Set;
import java.util.TreeSet;
import java.util.regex.Matcher;
import java.util.regex.Pattern;
import java.util.stream.Collectors;
import java.util.stream.Stream;

/** README.md: each line of its example, called as it stands there, and the tests that it names. */
public final class ReadmeTest {
    private static final Due DUE = new Due("ReadmeTest");
    private static final Path TESTS = Path.of("src/test/java");

    // x.call(a, b);  // ANSWER (CONSTANT): words
    private static final Pattern CALL =
        Pattern.compile("x\\.(\\w+)\\(([^)]*)\\); +// (-?\\d+)(?: \\(([A-Z]+)\\))?: \\S.*");
    private static final Pattern TYPED = Pattern.compile("\"([^\"]*)\"");

    public static void main(String[] args) throws IOException, ReflectiveOperationException {
        List<String> readme = Files.readAllLines(Path.of("README.md"));
        example(readme);
        tests(readme);
        DUE.close();
    }

    private static void example(List<String> readme) throws ReflectiveOperationException {
        Set<String> called = new TreeSet<>();
        BedHouse x = null;
        boolean inside = false;
        for (String line : readme) {
            if (line.startsWith("```")) {
                inside = line.equals("```java");
            } else if (inside && line.equals("BedHouse x = new BedHouse();")) {
                x = new BedHouse();
            } else if (inside && !line.isEmpty() && !line.startsWith("// ")) {
                Matcher call = CALL.matcher(line);
                boolean readable = call.matches() && x != null;
                DUE.holds("a call with its answer: " + line, readable);
                if (readable) {
                    called.add(call.group(1));
                    call(x, line, call);
                }
            }
        }
        Set<String> face = Stream.of(BedHouse.class.getMethods())
            .filter(method -> method.getDeclaringClass() == BedHouse.class)
            .map(Method::getName).collect(Collectors.toCollection(TreeSet::new));
        DUE.holds("all calls are shown: " + called + " of " + face, called.equals(face));
    }

    private static void call(BedHouse x, String line, Matcher call) throws ReflectiveOperationException {
        String[] given = call.group(2).isEmpty() ? new String[0] : call.group(2).split(", ");
        long due = Long.parseLong(call.group(3));
        DUE.is("README.md: " + line, due, answer(x, call.group(1), given));
        if (call.group(4) != null) {
            DUE.is("the constant in: " + line, due, BedHouse.class.getField(call.group(4)).getInt(null));
        }
        if (call.group(1).equals("type")) {
            Matcher typed = TYPED.matcher(line);
            DUE.holds("the bytes are told as a text: " + line, typed.find());
            DUE.is("bytes of: " + line, number(given[0]), bytes(typed.group(1)));
            DUE.is("how many bytes: " + line, number(given[1]), typed.group(1).length());
        }
    }

    private static long answer(BedHouse x, String name, String[] given) throws ReflectiveOperationException {
        for (Method method : BedHouse.class.getMethods()) {
            if (method.getName().equals(name) && method.getParameterCount() == given.length) {
                Object[] values = new Object[given.length];
                for (int i = 0; i < given.length; i++) {
                    boolean isLong = method.getParameterTypes()[i] == long.class;
                    values[i] = isLong ? (Object) number(given[i]) : (Object) (int) number(given[i]);
                }
                try {
                    return ((Number) method.invoke(x, values)).longValue();
                } catch (InvocationTargetException thrown) {
                    throw new IllegalStateException(name + " throws", thrown);
                }
            }
        }
        throw new IllegalStateException("no such call: " + name);
    }

    private static long number(String text) {
        boolean isLong = text.endsWith("L");
        String digits = isLong ? text.substring(0, text.length() - 1) : text;
        return digits.startsWith("0x") ? Long.parseUnsignedLong(digits.substring(2), 16) : Long.parseLong(digits);
    }

    private static long bytes(String text) {
        long bytes = 0;
        for (int i = 0; i < text.length(); i++) {
            bytes = bytes << 8 | text.charAt(i);
        }
        return bytes;
    }

    private static void tests(List<String> readme) throws IOException {
        Set<String> named = new TreeSet<>();
        for (String line : readme) {
            Matcher row = Pattern.compile("\\| `(\\w+Test)` \\| \\S.*").matcher(line);
            if (row.matches()) {
                named.add(row.group(1));
            }
        }
        Set<String> there;
        try (Stream<Path> files = Files.list(TESTS)) {
            there = files.map(file -> file.getFileName().toString()).filter(name -> name.endsWith("Test.java"))
                .map(name -> name.replace(".java", "")).collect(Collectors.toCollection(TreeSet::new));
        }
        DUE.holds("README.md names " + named + ", there are " + there, named.equals(there));
        DUE.holds("README.md says how to run them", readme.stream().anyMatch(line -> line.contains("`.ci/run`")));
    }
}
