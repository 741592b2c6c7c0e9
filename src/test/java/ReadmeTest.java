import java.io.File;
import java.io.IOException;
import java.lang.reflect.Method;
import java.lang.reflect.Modifier;
import java.nio.file.Files;
import java.nio.file.Path;
import java.util.ArrayList;
import java.util.Comparator;
import java.util.List;
import java.util.TreeSet;
import java.util.concurrent.TimeUnit;
import java.util.regex.Matcher;
import java.util.regex.Pattern;
import java.util.stream.Stream;

/**
 * What README.md says: its programs compile as they are printed there and answer what the comments say, its commands
 * run, and its tables name the calls of the face and the tests. All of it takes place in a copy of the project.
 */
public final class ReadmeTest {
    private static final Path README = Path.of("README.md");
    private static final Path TESTS = Path.of("src/test/java");
    private static final String SOURCE = "src/main/java/CakeDivision.java";
    /** It runs this test, so it can't be run by it; that it runs as it is named is what each of its runs shows. */
    private static final String RUN_ALL = ".ci/run";
    private static final int MOST_SECONDS = 300;
    private static final Pattern BLOCK = Pattern.compile("(?m)^```(\\w+)\n((?s:.*?))^```$");
    private static final Pattern CLASS_NAME = Pattern.compile("public final class (\\w+) \\{");
    private static final Pattern PRINTS = Pattern.compile("System\\.out\\.println\\(.*\\); *// ([^:\n]*)");
    private static final Pattern CELL = Pattern.compile("(?m)^\\| (.*?) \\|");
    private static final Pattern CODE = Pattern.compile("`(\\w+)`");

    private final Check check = new Check("ReadmeTest");
    private final String text;
    private final Path place;
    private final Path project;

    private ReadmeTest() throws IOException {
        text = Files.readString(README);
        place = Files.createTempDirectory("readme");
        project = Files.createDirectory(place.resolve("project"));
    }

    public static void main(String[] args) throws IOException, InterruptedException {
        ReadmeTest test = new ReadmeTest();
        try {
            test.copyProject();
            test.runPrograms();
            test.runCommands();
            test.compareCalls();
            test.compareTests("Test");
            test.compareTests("Chapter");
        } finally {
            test.removePlace();
        }
        test.check.finish();
    }

    private void copyProject() throws IOException {
        for (String directory : new String[] {".ci", "src"}) {
            Files.createSymbolicLink(project.resolve(directory), Path.of(directory).toRealPath());
        }
        Files.createSymbolicLink(place.resolve("shared"), Path.of("../shared").toRealPath());
        for (String program : blocks("java")) {
            Files.writeString(project.resolve(className(program) + ".java"), program);
        }
    }

    /** Links are taken away as such: what they lead to stays. */
    private void removePlace() throws IOException {
        try (Stream<Path> paths = Files.walk(place)) {
            paths.sorted(Comparator.reverseOrder()).map(Path::toFile).forEach(File::delete);
        }
    }

    private List<String> blocks(String language) {
        List<String> blocks = new ArrayList<>();
        Matcher matcher = BLOCK.matcher(text);
        while (matcher.find()) {
            if (matcher.group(1).equals(language)) {
                blocks.add(matcher.group(2));
            }
        }
        return blocks;
    }

    private static String className(String program) {
        Matcher matcher = CLASS_NAME.matcher(program);
        return matcher.find() ? matcher.group(1) : "Nameless";
    }

    private void runPrograms() throws IOException, InterruptedException {
        List<String> programs = blocks("java");
        check.same("there are programs", programs.isEmpty(), false);
        for (String program : programs) {
            String name = className(program);
            check.about(name);
            check.same("javac", output("javac", "-d", "alone/" + name, SOURCE, name + ".java"), "");
            check.same("java", output("java", "-cp", "alone/" + name, name), due(program));
        }
        check.about("");
    }

    /** What the comments say, line by line; each println must have one. */
    private String due(String program) {
        StringBuilder due = new StringBuilder();
        for (String line : program.split("\n")) {
            if (line.contains("System.out.")) {
                Matcher matcher = PRINTS.matcher(line);
                boolean found = matcher.find();
                check.same("a comment says what '" + line.trim() + "' prints", found, true);
                due.append(found ? matcher.group(1).trim() : "").append('\n');
            }
        }
        return due.toString();
    }

    private void runCommands() throws IOException, InterruptedException {
        List<String> commands = new ArrayList<>();
        for (String block : blocks("sh")) {
            commands.addAll(block.lines().toList());
        }
        check.same(RUN_ALL + " is named", commands.remove(RUN_ALL), true);
        check.same(RUN_ALL + " can be run", Files.isExecutable(Path.of(RUN_ALL)), true);
        check.same("there are other commands", commands.isEmpty(), false);
        for (String command : commands) {
            String output = output("sh", "-c", command);
            check.same(command, output.startsWith("exit code") ? output : "", "");
        }
    }

    /** What the command prints, but for its errors, with its exit code before it if that is not 0. */
    private String output(String... command) throws IOException, InterruptedException {
        Path printed = place.resolve("printed");
        Process process = new ProcessBuilder(command).directory(project.toFile()).redirectOutput(printed.toFile())
            .redirectError(ProcessBuilder.Redirect.INHERIT).start();
        if (!process.waitFor(MOST_SECONDS, TimeUnit.SECONDS)) {
            process.destroyForcibly();
            return "exit code of none: it does not end";
        }
        String output = Files.readString(printed);
        return process.exitValue() == 0 ? output : "exit code " + process.exitValue() + "\n" + output;
    }

    private void compareCalls() {
        TreeSet<String> due = new TreeSet<>();
        for (Method method : CakeDivision.class.getDeclaredMethods()) {
            if (Modifier.isPublic(method.getModifiers())) {
                due.add(method.getName());
            }
        }
        TreeSet<String> named = new TreeSet<>();
        for (String cell : firstCells()) {
            Matcher matcher = CODE.matcher(cell);
            while (matcher.find()) {
                check.same(matcher.group(1) + " stands in one row", named.add(matcher.group(1)), true);
            }
        }
        check.same("the calls in the table", named.toString(), due.toString());
    }

    /** The files of the tests and the rows of the tables. */
    private void compareTests(String ending) throws IOException {
        TreeSet<String> due = new TreeSet<>();
        try (Stream<Path> files = Files.list(TESTS)) {
            files.map(file -> file.getFileName().toString().replace(".java", ""))
                .filter(name -> name.endsWith(ending) && !name.equals(ending)).forEach(due::add);
        }
        TreeSet<String> named = new TreeSet<>(firstCells());
        named.removeIf(cell -> !cell.endsWith(ending));
        check.same("the rows of the table", named.toString(), due.toString());
    }

    private List<String> firstCells() {
        List<String> cells = new ArrayList<>();
        Matcher matcher = CELL.matcher(text);
        while (matcher.find()) {
            cells.add(matcher.group(1));
        }
        return cells;
    }
}
