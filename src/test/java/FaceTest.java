import java.io.IOException;
import java.lang.reflect.Constructor;
import java.lang.reflect.Field;
import java.lang.reflect.Method;
import java.lang.reflect.Modifier;
import java.nio.file.Files;
import java.nio.file.Path;
import java.util.ArrayList;
import java.util.Arrays;
import java.util.List;
import java.util.TreeSet;
import java.util.regex.Matcher;
import java.util.regex.Pattern;
import java.util.stream.Collectors;

/**
 * Holds the class against the face that the document writes out, and against those rules of
 * LANGUAGE.md that can be seen from outside or by plain words of the source.
 */
public final class FaceTest {
    private static final int LONGEST_METHOD = 60;
    private static final String[] FORBIDDEN = {"->", "::", "synchronized", "assert ", "finally", "catch", "try {",
        "System.", "Random", "Thread", "static {", "import java.util.*", "Exact(", "Math.rint", "Math.floor(",
        "instanceof", "protected", "public static", "volatile", "native", "getMessage"};

    public static void main(String[] args) throws IOException {
        face();
        classes();
        words();
        Check.end("FaceTest");
    }

    private static void face() throws IOException {
        String doc = Files.readString(Path.of("../shared/DOC.md"));
        String block = doc.substring(doc.indexOf("```java"), doc.indexOf("```", doc.indexOf("```java") + 3));
        TreeSet<String> due = new TreeSet<>();
        Matcher line = Pattern.compile("public (\\w+) (\\w+)\\(([^)]*)\\)( throws ([^;]*))?;").matcher(block);
        while (line.find()) {
            String types = Arrays.stream(line.group(3).split(", ")).map(p -> p.split(" ")[0])
                    .collect(Collectors.joining(","));
            String thrown = line.group(5) == null ? "" : line.group(5).replace(" ", "");
            due.add(line.group(1) + " " + line.group(2) + "(" + types + ") " + thrown);
        }
        TreeSet<String> got = new TreeSet<>();
        for (Method method : Chanceledger.class.getDeclaredMethods()) {
            if (Modifier.isPrivate(method.getModifiers())) {
                continue;
            }
            got.add(method.getReturnType().getName() + " " + method.getName() + "(" + names(method.getParameterTypes())
                    + ") " + names(method.getExceptionTypes()));
            Check.due("public alone: " + method, Modifier.toString(method.getModifiers()), "public");
        }
        Check.due("methods of the face", got, due);
        Check.due("number of methods", got.size(), 37);
        Check.due("class", Modifier.toString(Chanceledger.class.getModifiers()), "public final");
        Constructor<?>[] made = Chanceledger.class.getDeclaredConstructors();
        Check.due("one constructor", made.length + " " + made[0], "1 public Chanceledger()");
    }

    private static String names(Class<?>[] types) {
        return Arrays.stream(types).map(Class::getSimpleName).collect(Collectors.joining(","));
    }

    private static void classes() {
        List<Class<?>> all = new ArrayList<>(List.of(Chanceledger.class.getDeclaredClasses()));
        for (Class<?> inside : all) {
            Check.due("kind of " + inside, Modifier.toString(inside.getModifiers()), "private static final");
        }
        all.add(Chanceledger.class);
        Check.due("some twelve classes", all.size() <= 12, true);
        TreeSet<String> face = new TreeSet<>();
        for (Method method : Chanceledger.class.getMethods()) {
            face.add(method.getName());
        }
        for (Class<?> each : all) {
            int fields = 0;
            for (Field field : each.getDeclaredFields()) {
                boolean isStatic = Modifier.isStatic(field.getModifiers());
                fields += isStatic ? 0 : 1;
                Check.due("static and not final: " + field, isStatic && !Modifier.isFinal(field.getModifiers()), false);
            }
            Check.due("some twenty fields in " + each, fields <= 20, true);
            for (Method method : each.getDeclaredMethods()) {
                Check.due("parameters of " + method, method.getParameterCount() <= 7, true);
                boolean isTwin = face.contains(method.getName()) && !Modifier.isPublic(method.getModifiers());
                Check.due("bears a public name: " + method, isTwin, false);
            }
        }
    }

    private static void words() throws IOException {
        List<String> lines = Files.readAllLines(Path.of("src/main/java/Chanceledger.java"));
        int start = -1;
        for (int i = 0; i < lines.size(); i++) {
            String line = lines.get(i);
            String code = line.strip();
            if (code.startsWith("*") || code.startsWith("/*") || code.startsWith("//")) {
                continue;
            }
            for (String word : FORBIDDEN) {
                Check.due("line " + (i + 1) + " has " + word, code.contains(word), false);
            }
            Check.due("ASCII in line " + (i + 1), line.chars().allMatch(c -> c < 127), true);
            if (code.startsWith("import")) {
                Check.due("import", code, "import java.util.NoSuchElementException;");
            }
            boolean isHead = line.matches(" {4}( {4})?\\S.*\\) \\{|.* throws .*\\{") && !code.startsWith("}");
            start = isHead ? i : start;
            if (start >= 0 && line.matches(" {4}( {4})?\\}")) {
                Check.due("short method at line " + (start + 1), i - start <= LONGEST_METHOD, true);
                start = -1;
            }
        }
    }
}
