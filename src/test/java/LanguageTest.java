import java.io.IOException;
import java.lang.reflect.Constructor;
import java.lang.reflect.Field;
import java.lang.reflect.Method;
import java.lang.reflect.Modifier;
import java.nio.file.Files;
import java.nio.file.Path;
import java.util.Arrays;
import java.util.Set;
import java.util.TreeSet;
import java.util.regex.Matcher;
import java.util.regex.Pattern;

/** The rules of LANGUAGE.md that can be seen from the source's text and from the compiled classes. */
public final class LanguageTest {
    private static final Check CHECK = new Check("LanguageTest");
    private static final Path SOURCE = Path.of("src/main/java/DrawnList.java");

    /** The document's face, with its types. */
    private static final String FACE = "int about(int,int) int again(int,int,int,int) int answer(int,int,int) int asOf(int) "
            + "long both(int,int,int,int) int can(int) int copy(int,int,int,int,int) int cost(int,int) int count(int) "
            + "long digest() long draws(int) long edge(int,int) int fault(int) int get(int,int,int) int known(int,int,int) "
            + "int led(int,int,int,int) int lose(int) int lots(int,int) int makes(int,int) int many(int,int) "
            + "int name(int,int,int,int) int put(int,int,int,int) int read(int) long share(int,int,int) int sheet(int,int,int) "
            + "int silent(int) long spread(int,int) long sum(int,int,int) int type(int,int) int weight(int,int,int,int) "
            + "int wider(int,int) int width(int,int) int wipe(int) int write(int,int)";

    public static void main(String[] args) throws IOException {
        face();
        members();
        String code = withoutComments(Files.readString(SOURCE));
        words(code);
        methods(code);
        CHECK.close();
    }

    private static void face() {
        Set<String> found = new TreeSet<>();
        Set<String> names = new TreeSet<>();
        for (Method m : DrawnList.class.getDeclaredMethods()) {
            if (Modifier.isPublic(m.getModifiers())) {
                String types = String.join(",", Arrays.stream(m.getParameterTypes()).map(Class::getName).toList());
                found.add(m.getReturnType().getName() + " " + m.getName() + "(" + types + ")");
                names.add(m.getName());
            }
        }
        Set<String> want = new TreeSet<>(Arrays.asList(FACE.split(" (?=int |long )")));
        CHECK.holds("the face is the document's: " + found, found.equals(want));
        for (Method m : DrawnList.class.getDeclaredMethods()) {
            int modifiers = m.getModifiers();
            CHECK.holds(m + " is public or private", Modifier.isPublic(modifiers) || Modifier.isPrivate(modifiers) || m.isSynthetic());
            CHECK.holds(m + " bears a name of its own", Modifier.isPublic(modifiers) || !names.contains(m.getName()));
        }
        Constructor<?>[] constructors = DrawnList.class.getDeclaredConstructors();
        CHECK.due("constructors", constructors.length, 1);
        CHECK.holds("a public one without arguments", Modifier.isPublic(constructors[0].getModifiers()) && constructors[0].getParameterCount() == 0);
        CHECK.holds("public and final", Modifier.isPublic(DrawnList.class.getModifiers()) && Modifier.isFinal(DrawnList.class.getModifiers()));
        for (Class<?> c : DrawnList.class.getDeclaredClasses()) {
            CHECK.holds(c + " is static and not public", Modifier.isStatic(c.getModifiers()) && !Modifier.isPublic(c.getModifiers()));
            for (Method m : c.getDeclaredMethods()) {
                CHECK.holds(m + " bears no name of the face", !names.contains(m.getName()));
            }
        }
        CHECK.holds("at most twelve classes", DrawnList.class.getDeclaredClasses().length < 12);
    }

    private static void members() {
        Set<String> constants = Set.of("NONE", "BAD", "NOT", "FULL");
        for (Field f : DrawnList.class.getDeclaredFields()) {
            boolean isPublic = Modifier.isPublic(f.getModifiers());
            CHECK.holds(f + " is public or private as it should", constants.contains(f.getName()) ? isPublic : Modifier.isPrivate(f.getModifiers()));
        }
        CHECK.due("NONE", DrawnList.NONE, -1);
        CHECK.due("BAD", DrawnList.BAD, -2);
        CHECK.due("NOT", DrawnList.NOT, -3);
        CHECK.due("FULL", DrawnList.FULL, -4);
        oneClass(DrawnList.class);
        for (Class<?> c : DrawnList.class.getDeclaredClasses()) {
            oneClass(c);
        }
    }

    private static void oneClass(Class<?> c) {
        int fields = 0;
        for (Field f : c.getDeclaredFields()) {
            if (Modifier.isStatic(f.getModifiers())) {
                CHECK.holds(f + " is final", Modifier.isFinal(f.getModifiers()));
            } else {
                fields++;
            }
        }
        CHECK.holds(c + " has at most twenty fields", fields <= 20);
        for (Method m : c.getDeclaredMethods()) {
            CHECK.holds(m + " takes at most seven", m.getParameterCount() <= 7);
        }
    }

    private static String withoutComments(String text) {
        return text.replaceAll("(?s)/\\*.*?\\*/", "").replaceAll("//[^\n]*", "");
    }

    private static void words(String code) {
        String[] never = {"import", "package", "throw", "throws", "try", "catch", "finally", "synchronized", "assert", "volatile",
            "transient", "native", "var", "yield", "double", "float", "System.out", "System.nanoTime", "Object", "hashCode", "toString"};
        for (String word : never) {
            CHECK.holds("no " + word, !Pattern.compile("\\b" + Pattern.quote(word) + "\\b").matcher(code).find());
        }
        for (String sign : new String[] {"->", "::", "@", "Exact(", "while (true)"}) {
            CHECK.holds("no " + sign, !code.contains(sign));
        }
        Set<String> library = Set.of("Integer.bitCount", "Long.compare", "Math.min", "Math.max", "Math.abs", "System.arraycopy");
        Matcher m = Pattern.compile("\\b(Integer|Long|Math|System|Arrays|String|StringBuilder|List|ArrayList)\\b(\\.\\w+)?").matcher(code);
        while (m.find()) {
            CHECK.holds(m.group() + " is of the library that is left", library.contains(m.group()));
        }
        CHECK.holds("signs up to 127 alone", code.chars().allMatch(c -> c < 128));
    }

    /** Methods stay short: lines from a head at one of both depths to its closing bracket. */
    private static void methods(String code) {
        String[] lines = code.split("\n");
        Pattern head = Pattern.compile("^( {4}| {8})(?!private static final class|private abstract static class)\\S.*\\) \\{$");
        int found = 0;
        for (int i = 0; i < lines.length; i++) {
            Matcher m = head.matcher(lines[i]);
            if (!m.matches() || lines[i].strip().matches("(if|for|while|switch|\\} else).*")) {
                continue;
            }
            int end = i;
            while (end < lines.length && !lines[end].equals(m.group(1) + "}")) {
                end++;
            }
            found++;
            CHECK.holds(lines[i].strip() + " is short: " + (end - i + 1), end - i + 1 <= 60);
        }
        CHECK.holds("methods were found", found > 100);
    }
}
