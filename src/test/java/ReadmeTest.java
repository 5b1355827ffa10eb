import java.io.IOException;
import java.lang.reflect.Method;
import java.lang.reflect.Modifier;
import java.nio.file.Files;
import java.nio.file.Path;
import java.util.ArrayList;
import java.util.Comparator;
import java.util.List;
import java.util.Set;
import java.util.TreeSet;
import java.util.concurrent.TimeUnit;
import java.util.regex.Matcher;
import java.util.regex.Pattern;
import java.util.stream.Collectors;
import java.util.stream.Stream;

/**
 * README.md as it is now. Its examples are written into a program, Your.java, that the commands of
 * README.md compile and run, and that prints each row whose answer is not the one that is told.
 */
public final class ReadmeTest {
    private static final Path README = Path.of("README.md");
    private static final Path TESTS = Path.of("src/test/java");
    private static final String NEW_MAP = "MapGeneralizer map = new MapGeneralizer();";
    private static final Pattern ROW = Pattern.compile(
            "(\\S.*\\));\\s+// (-?\\d+(?:\\.\\d+)?|true|false|[A-Z]\\w+Exception)(?:: .+)?");
    private static final Pattern CALL = Pattern.compile("map\\.(\\w+)\\(.*");

    private static final Set<String> SHOWN = new TreeSet<>();
    private static final Set<String> ANSWERS = new TreeSet<>();

    private ReadmeTest() {
    }

    public static void main(String[] args) throws IOException, InterruptedException {
        String readme = Files.readString(README);
        String program = programOf(blocksOf(readme, "java"));
        checkWhatIsShown();
        checkTests(readme);
        checkPaths(readme);
        Path folder = Files.createTempDirectory("readme");
        try {
            copySources(folder);
            Files.writeString(folder.resolve("Your.java"), program);
            checkCommands(readme, folder);
        } finally {
            delete(folder);
        }
        Check.finish();
    }

    /** The blocks of code in one language. */
    private static List<String> blocksOf(String readme, String language) {
        List<String> blocks = new ArrayList<>();
        Matcher matcher = Pattern.compile("(?ms)^```" + language + "\n(.*?)^```$").matcher(readme);
        while (matcher.find()) {
            blocks.add(matcher.group(1));
        }
        return blocks;
    }

    private static String programOf(List<String> blocks) {
        StringBuilder members = new StringBuilder();
        StringBuilder main = new StringBuilder();
        for (String block : blocks) {
            if (block.startsWith("static ")) {
                members.append(block);
            } else {
                main.append("{\n").append(exampleOf(block)).append("}\n");
            }
        }
        Check.due("there are examples", true, main.length() > 0);
        return "public final class Your {\n" + members
                + "static int wrong = 0;\n"
                + "static void due(String call, String want, Object got) {\n"
                + "    if (!want.equals(String.valueOf(got))) {\n"
                + "        wrong++;\n"
                + "        System.out.println(call + \" answered \" + got + \", README.md says \" + want);\n"
                + "    }\n"
                + "}\n"
                + "public static void main(String[] args) {\n" + main
                + "System.exit(wrong == 0 ? 0 : 1);\n}\n}\n";
    }

    /** The rows of an example, each of which must be a new map, or a call with its answer behind it. */
    private static String exampleOf(String block) {
        StringBuilder example = new StringBuilder();
        String[] rows = block.split("\n");
        Check.due("an example begins with a new map", NEW_MAP, rows[0]);
        example.append(rows[0]).append('\n');
        for (int i = 1; i < rows.length; i++) {
            Matcher row = ROW.matcher(rows[i]);
            Check.due("it has an answer: " + rows[i], true, row.matches());
            if (row.matches()) {
                example.append(checkOf(row.group(1), row.group(2)));
            }
        }
        return example.toString();
    }

    private static String checkOf(String call, String want) {
        Matcher matcher = CALL.matcher(call);
        if (matcher.matches()) {
            SHOWN.add(matcher.group(1));
        }
        ANSWERS.add(want);
        String name = '"' + call.replace("\\", "\\\\").replace("\"", "\\\"") + "\", \"" + want + "\", ";
        return "try {\n    due(" + name + call + ");\n} catch (RuntimeException e) {\n    due(" + name
                + "e.getClass().getSimpleName());\n}\n";
    }

    /** Each method of the face, and each exception, must be in the examples. */
    private static void checkWhatIsShown() {
        Set<String> methods = new TreeSet<>();
        Set<String> exceptions = new TreeSet<>();
        for (Method method : MapGeneralizer.class.getDeclaredMethods()) {
            if (Modifier.isPublic(method.getModifiers())) {
                methods.add(method.getName());
                for (Class<?> type : method.getExceptionTypes()) {
                    exceptions.add(type.getSimpleName());
                }
            }
        }
        Check.due("the methods that are shown", methods, SHOWN);
        ANSWERS.removeIf(answer -> !answer.endsWith("Exception"));
        Check.due("the exceptions that are shown", exceptions, ANSWERS);
    }

    /** The table must have a row for each test, and the text must name each file that the tests share. */
    private static void checkTests(String readme) throws IOException {
        Set<String> tests = new TreeSet<>();
        try (Stream<Path> files = Files.list(TESTS)) {
            for (Path file : files.collect(Collectors.toList())) {
                String name = file.getFileName().toString().replace(".java", "");
                if (name.endsWith("Test")) {
                    tests.add(name);
                } else {
                    Check.due("README.md names " + name, true,
                            Pattern.compile("\\b" + name + "\\b").matcher(readme).find());
                }
            }
        }
        Set<String> named = new TreeSet<>();
        Matcher row = Pattern.compile("(?m)^\\| (\\w+Test) \\|").matcher(readme);
        while (row.find()) {
            named.add(row.group(1));
        }
        Check.due("the tests in the table", tests, named);
    }

    /** What README.md names by its path must be there, and .ci/run must be executable. */
    private static void checkPaths(String readme) {
        Matcher path = Pattern.compile("`([\\w./]+/[\\w./]+)`").matcher(readme);
        int paths = 0;
        while (path.find()) {
            Check.due(path.group(1) + " is there", true, Files.exists(Path.of(path.group(1))));
            paths++;
        }
        Check.due("README.md names paths", true, paths > 0);
        Check.due(".ci/run is executable", true, Files.isExecutable(Path.of(".ci/run")));
    }

    private static void copySources(Path folder) throws IOException {
        try (Stream<Path> files = Files.walk(Path.of("src"))) {
            for (Path file : files.collect(Collectors.toList())) {
                Path copy = folder.resolve(file);
                if (Files.isDirectory(file)) {
                    Files.createDirectories(copy);
                } else {
                    Files.copy(file, copy);
                }
            }
        }
    }

    /** Each command must end with exit code 0 in a copy of this project. */
    private static void checkCommands(String readme, Path folder) throws IOException, InterruptedException {
        int commands = 0;
        for (String block : blocksOf(readme, "sh")) {
            for (String command : block.split("\n")) {
                Path printed = folder.resolve("printed.txt");
                Process process = new ProcessBuilder("sh", "-c", command).directory(folder.toFile())
                        .redirectErrorStream(true).redirectOutput(printed.toFile()).start();
                boolean hasEnded = process.waitFor(5, TimeUnit.MINUTES);
                boolean isRight = hasEnded && process.exitValue() == 0;
                Check.due(command + " runs", true, isRight);
                if (!isRight) {
                    process.destroyForcibly();
                    System.out.println(Files.readString(printed));
                }
                commands++;
            }
        }
        Check.due("README.md has commands", true, commands > 0);
    }

    private static void delete(Path folder) throws IOException {
        try (Stream<Path> files = Files.walk(folder)) {
            for (Path file : files.sorted(Comparator.reverseOrder()).collect(Collectors.toList())) {
                Files.delete(file);
            }
        }
    }
}
