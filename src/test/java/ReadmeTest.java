import java.io.IOException;
import java.lang.reflect.Method;
import java.lang.reflect.Modifier;
import java.nio.file.Files;
import java.nio.file.Path;
import java.util.Arrays;
import java.util.HashMap;
import java.util.List;
import java.util.Map;
import java.util.Set;
import java.util.TreeMap;
import java.util.TreeSet;
import java.util.regex.Matcher;
import java.util.regex.Pattern;

/** README.md: its examples answer as they say; its tables tell each call of the face, its list each test. */
public final class ReadmeTest {
    private static final Check CHECK = new Check("ReadmeTest");
    private static final Path README = Path.of("README.md");
    private static final Path TESTS = Path.of("src/test/java");
    private static final Pattern MAKING = Pattern.compile("DrawnList (\\w) = new DrawnList\\(\\);");
    private static final Pattern CALL = Pattern.compile("(\\w)\\.(\\w+)\\(([^;]*)\\);\\s*// (-?\\d+)\\b.*");
    private static final Pattern ROW = Pattern.compile("(?m)^\\| `(\\w+)\\(([^)`]*)\\)` \\|");

    public static void main(String[] args) throws IOException, ReflectiveOperationException {
        String text = Files.readString(README);
        Map<String, Method> face = face();
        int calls = 0;
        Matcher block = Pattern.compile("(?s)```java\n(.*?)```").matcher(text);
        while (block.find()) {
            calls += example(block.group(1), face);
        }
        CHECK.holds("examples were found: " + calls, calls > 20);
        tables(text, face);
        listOfTests(text);
        CHECK.close();
    }

    private static Map<String, Method> face() {
        Map<String, Method> face = new TreeMap<>();
        for (Method m : DrawnList.class.getDeclaredMethods()) {
            if (Modifier.isPublic(m.getModifiers())) {
                face.put(m.getName(), m);
            }
        }
        return face;
    }

    /** Every line either makes an object or is one call with its answer. */
    private static int example(String code, Map<String, Method> face) throws ReflectiveOperationException {
        Map<String, DrawnList> objects = new HashMap<>();
        int calls = 0;
        for (String line : code.split("\n")) {
            Matcher making = MAKING.matcher(line);
            Matcher call = CALL.matcher(line);
            if (making.matches()) {
                objects.put(making.group(1), new DrawnList());
            } else if (call.matches() && objects.containsKey(call.group(1)) && face.containsKey(call.group(2))) {
                Object got = face.get(call.group(2)).invoke(objects.get(call.group(1)), numbers(call.group(3)));
                CHECK.due(line.strip(), ((Number) got).longValue(), Long.parseLong(call.group(4)));
                calls++;
            } else {
                CHECK.holds("a line that can be read: " + line, false);
            }
        }
        return calls;
    }

    private static Object[] numbers(String list) {
        if (list.isBlank()) {
            return new Object[0];
        }
        return Arrays.stream(list.split(", ")).map(ReadmeTest::number).toArray();
    }

    private static Object number(String one) {
        return one.startsWith("'") ? (Object) (int) one.charAt(1) : (Object) Integer.parseInt(one);
    }

    private static void tables(String text, Map<String, Method> face) {
        Set<String> told = new TreeSet<>();
        Matcher row = ROW.matcher(text);
        while (row.find()) {
            int arguments = row.group(2).isEmpty() ? 0 : row.group(2).split(", ").length;
            CHECK.holds(row.group(1) + " is told once", told.add(row.group(1)));
            CHECK.holds(row.group() + " is of the face", face.containsKey(row.group(1))
                    && face.get(row.group(1)).getParameterCount() == arguments);
            boolean isLong = face.containsKey(row.group(1)) && face.get(row.group(1)).getReturnType() == long.class;
            String line = text.substring(row.start(), text.indexOf('\n', row.start()));
            CHECK.holds(row.group(1) + " is told as a long where it is one", isLong == line.matches(".*\\((a long|longs)\\).*"));
        }
        CHECK.holds("each call is told: " + told, told.equals(face.keySet()));
    }

    private static void listOfTests(String text) throws IOException {
        List<Path> files;
        try (var all = Files.list(TESTS)) {
            files = all.toList();
        }
        for (Path file : files) {
            String name = file.getFileName().toString().replace(".java", "");
            CHECK.holds(name + " is told", text.contains("`" + name + "`"));
        }
        CHECK.holds("tests were found", files.size() > 10);
    }
}
