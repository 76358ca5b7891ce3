import java.io.IOException;
import java.lang.reflect.Method;
import java.nio.file.Files;
import java.nio.file.Path;
import java.nio.file.StandardCopyOption;
import java.util.ArrayList;
import java.util.Comparator;
import java.util.List;
import java.util.TreeSet;
import java.util.regex.Matcher;
import java.util.regex.Pattern;
import java.util.stream.Stream;

/** Does what README.md says, as it is written there, and holds the names in it against what there is. */
public final class ReadmeTest {
    private static final Path TESTS = Path.of("src/test/java");
    private static final Path PROGRAM = Path.of("src/main/java/Chanceledger.java");
    /** Stands for the project's folder, in which a reader would save the program. */
    private static final Path FOLDER = Path.of("build/readme");

    public static void main(String[] args) throws IOException, InterruptedException {
        String text = Files.readString(Path.of("README.md"));
        int tests = text.indexOf("\n## Tests\n");
        Check.due("it tells of use first, then of tests", tests > text.indexOf("\n## Use\n"), true);
        use(text.substring(0, tests));
        runTests(text.substring(tests));
        calls(text);
        aims(text);
        exceptions(text);
        names(text);
        Check.end("ReadmeTest");
    }

    private static void use(String text) throws IOException, InterruptedException {
        clear();
        Files.createDirectories(FOLDER.resolve(PROGRAM).getParent());
        Files.copy(PROGRAM, FOLDER.resolve(PROGRAM), StandardCopyOption.REPLACE_EXISTING);
        String name = found("save this as `(\\w+\\.java)`", text).first();
        Files.writeString(FOLDER.resolve(name), block("```java\n", text));
        String printed = "";
        for (String command : commands(text)) {
            printed = run(command, FOLDER);
        }
        Check.due("what the program prints", printed, block("It prints:\n\n```\n", text));
    }

    /** What an earlier run compiled must not stand in for what these commands do. */
    private static void clear() throws IOException {
        if (Files.exists(FOLDER)) {
            try (Stream<Path> old = Files.walk(FOLDER)) {
                for (Path path : old.sorted(Comparator.reverseOrder()).toList()) {
                    Files.delete(path);
                }
            }
        }
    }

    /** The script itself runs this test, so it is not run here. */
    private static void runTests(String text) throws IOException, InterruptedException {
        List<String> commands = commands(text);
        Check.due("commands", commands.size(), 2);
        Check.due("the script", commands.get(0) + Files.isExecutable(Path.of(commands.get(0))), ".ci/runtrue");
        String[] words = commands.get(1).split(" ");
        String said = "plays " + words[4] + " games from the " + words[5] + "th on";
        Check.due(said, text.replace('\n', ' ').contains(said), true);
        String printed = run(commands.get(1), Path.of("."));
        Check.due("a test alone", printed.matches("OracleTest: [1-9]\\d* checks, 0 wrong\n"), true);
    }

    private static String block(String head, String text) {
        int start = text.indexOf(head) + head.length();
        return text.substring(start, text.indexOf("```", start));
    }

    /** They stand four columns in, and not in the program. */
    private static List<String> commands(String text) {
        List<String> commands = new ArrayList<>();
        boolean isInBlock = false;
        for (String line : text.split("\n")) {
            isInBlock = isInBlock != line.startsWith("```");
            if (!isInBlock && line.startsWith("    ")) {
                commands.add(line.strip());
            }
        }
        return commands;
    }

    private static String run(String command, Path folder) throws IOException, InterruptedException {
        Process process = new ProcessBuilder("sh", "-c", command).directory(folder.toFile())
                .redirectError(ProcessBuilder.Redirect.INHERIT).start();
        String printed = new String(process.getInputStream().readAllBytes()).replace("\r\n", "\n");
        Check.due(command + " ends well", process.waitFor(), 0);
        return printed;
    }

    private static TreeSet<String> found(String pattern, String text) {
        TreeSet<String> found = new TreeSet<>();
        Matcher matcher = Pattern.compile(pattern).matcher(text);
        while (matcher.find()) {
            found.add(matcher.group(1));
        }
        return found;
    }

    /** The rows of the table under a head. */
    private static String table(String head, String text) {
        int start = text.indexOf("\n| " + head + " | ");
        return text.substring(start, text.indexOf("\n\n", start));
    }

    private static List<Method> face() {
        List<Method> face = new ArrayList<>();
        for (Method method : Chanceledger.class.getMethods()) {
            if (method.getDeclaringClass() == Chanceledger.class) {
                face.add(method);
            }
        }
        return face;
    }

    private static void calls(String text) {
        TreeSet<String> due = new TreeSet<>();
        for (Method method : face()) {
            due.add(method.getName());
        }
        Check.due("calls", found("`(\\w+)`", table("For", text)), due);
    }

    private static void aims(String text) {
        Chanceledger game = Games.of("a0 0,0>0");
        String seen = "";
        for (String line : table("Aim", text).split("\n")) {
            for (String aim : found("`'(.)'`", line)) {
                char sign = aim.charAt(0);
                seen += aim;
                Check.due("chain takes " + aim, game.chainBelow(sign, 0), 1L);
                if (line.contains("alone")) {
                    Check.thrown("for a chain alone: " + aim, IllegalArgumentException.class, () -> game.above(sign, 0));
                } else {
                    Check.due("value takes " + aim, game.below(sign, 0), 1L);
                }
            }
        }
        Check.due("aims", seen, "rfswmp");
    }

    private static void exceptions(String text) {
        TreeSet<String> due = new TreeSet<>();
        for (Method method : face()) {
            for (Class<?> thrown : method.getExceptionTypes()) {
                due.add(thrown.getSimpleName());
            }
        }
        Check.due("exceptions", found("`(\\w+Exception)`", table("Exception", text)), due);
    }

    /** Each test is named, and what bears a name there is a file. */
    private static void names(String text) throws IOException {
        TreeSet<String> due = new TreeSet<>();
        try (Stream<Path> files = Files.list(TESTS)) {
            files.forEach(file -> due.add(file.getFileName().toString().replace(".java", "")));
        }
        TreeSet<String> named = found("`([A-Z]\\w+)[`.]", text.substring(text.indexOf("\n## Tests\n")));
        Check.due("files for the names", due.containsAll(named), true);
        due.removeIf(name -> !name.endsWith("Test") && !name.endsWith("Edges"));
        Check.due("tests and edges that are named", named.containsAll(due), true);
        for (String path : found("`((?:\\.\\./|src/|\\.ci/)[\\w./]+)`", text)) {
            Check.due("there is " + path, Files.exists(Path.of(path)), true);
        }
        Check.due("limit of calls", text.contains("512 calls"), true);
    }
}
