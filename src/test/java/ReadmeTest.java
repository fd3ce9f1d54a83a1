import java.io.File;
import java.io.IOException;
import java.lang.reflect.InvocationTargetException;
import java.lang.reflect.Method;
import java.lang.reflect.Modifier;
import java.net.URL;
import java.net.URLClassLoader;
import java.nio.file.Files;
import java.nio.file.Path;
import java.util.ArrayList;
import java.util.Comparator;
import java.util.List;
import java.util.concurrent.TimeUnit;
import java.util.regex.Matcher;
import java.util.regex.Pattern;
import java.util.stream.Stream;
import javax.tools.ToolProvider;

/** README.md: its example answers what it says, it names each call, and its commands work. */
public final class ReadmeTest {
    private static final Path README = Path.of("README.md");
    private static final int SECONDS = 300;

    /** A call in the example, perhaps with a name for its answer, and the answer that is due. */
    private static final Pattern CALL =
            Pattern.compile("((?:int \\w+ = )?)(yard\\.\\w+\\(.*\\));\\s*// (-?[0-9]+|[A-Z]+): .*");

    private static int wrong = 0;

    static void wrong(String what) {
        wrong++;
        System.out.println("README.md: " + what);
    }

    /** The example calls this, so that it is public. */
    public static int due(String call, int got, int want) {
        if (got != want) wrong(call + " answered " + got + ", it says " + want);
        return got;
    }

    private static List<String> blocks(String text, String language) {
        List<String> all = new ArrayList<>();
        Matcher m = Pattern.compile("(?s)```" + language + "\n(.*?)```").matcher(text);
        while (m.find()) all.add(m.group(1));
        return all;
    }

    // ---- the example

    private static String lineOfProgram(String line) {
        Matcher m = CALL.matcher(line);
        if (m.matches()) {
            String want = m.group(3).matches("[A-Z]+") ? "WarpYard." + m.group(3) : m.group(3);
            return m.group(1) + "ReadmeTest.due(\"" + m.group(2) + "\", " + m.group(2) + ", " + want + ");";
        }
        if (!line.isBlank() && !line.equals("WarpYard yard = new WarpYard();")) wrong("no answer is told: " + line);
        return line;
    }

    private static void runExample(String block, Path folder) throws IOException, ReflectiveOperationException {
        StringBuilder program = new StringBuilder("public final class Example { public static void main(String[] args) {\n");
        for (String line : block.split("\n")) program.append(lineOfProgram(line)).append('\n');
        Path file = Files.writeString(folder.resolve("Example.java"), program + "}}\n");
        String classes = System.getProperty("java.class.path");
        if (ToolProvider.getSystemJavaCompiler().run(null, null, null, "-cp", classes, "-d", folder.toString(), file.toString()) != 0) {
            wrong("the example is no Java");
            return;
        }
        try (URLClassLoader loader = new URLClassLoader(new URL[] {folder.toUri().toURL()})) {
            loader.loadClass("Example").getMethod("main", String[].class).invoke(null, (Object) new String[0]);
        } catch (InvocationTargetException e) {
            wrong("the example threw " + e.getCause());
        }
    }

    // ---- the names

    private static void lookForNames(String text) {
        for (Method m : WarpYard.class.getDeclaredMethods()) {
            if (!Modifier.isPublic(m.getModifiers())) continue;
            Matcher row = Pattern.compile("\\| `" + m.getName() + "\\(([^)]*)\\)` \\|").matcher(text);
            if (!row.find()) {
                wrong("it has no row for " + m.getName());
            } else if (m.getParameterCount() != (row.group(1).isEmpty() ? 0 : row.group(1).split(", ").length)) {
                wrong("it has other parameters for " + m.getName());
            }
        }
        String[] constants = {"`NONE` (-1)", "`BAD` (-2)", "`STATE` (-3)", "`FULL` (-4)"};
        for (String constant : constants) if (!text.contains(constant)) wrong("it doesn't say " + constant);
        for (File file : new File("src/test/java").listFiles((folder, name) -> name.endsWith("Test.java"))) {
            String test = file.getName().replace(".java", "");
            if (!text.contains("| `" + test + "` |")) wrong("it has no row for " + test);
        }
    }

    // ---- the commands

    private static void copyProject(Path to) throws IOException {
        List<Path> files;
        try (Stream<Path> all = Files.walk(Path.of("src"))) {
            files = all.filter(Files::isRegularFile).toList();
        }
        for (Path file : files) {
            Files.createDirectories(to.resolve(file).getParent());
            Files.copy(file, to.resolve(file));
        }
        Files.copy(README, to.resolve(README));
    }

    /** Not the script that runs this test, and not what runs for minutes: of them only what they name. */
    private static void runCommands(String block, Path folder) throws IOException, InterruptedException {
        StringBuilder commands = new StringBuilder("set -e\n");
        for (String line : block.split("\n")) {
            if (line.equals(".ci/run")) {
                if (!Files.isExecutable(Path.of(line))) wrong("no " + line + " can be run");
            } else if (line.startsWith("java -cp out Mutants out ")) {
                for (String name : line.substring("java -cp out ".length()).replace(" out ", " ").split(" ")) {
                    if (!Files.exists(folder.resolve("src/test/java/" + name + ".java"))) wrong("no " + name + ": " + line);
                }
            } else {
                commands.append(line).append('\n');
            }
        }
        Path told = folder.resolve("told");
        Process p = new ProcessBuilder("sh", "-c", commands.toString()).directory(folder.toFile())
                .redirectErrorStream(true).redirectOutput(told.toFile()).start();
        boolean ended = p.waitFor(SECONDS, TimeUnit.SECONDS);
        if (!ended) p.destroyForcibly();
        if (!ended || p.exitValue() != 0) wrong("these commands fail:\n" + commands + Files.readString(told));
    }

    private static void delete(Path folder) throws IOException {
        List<Path> all;
        try (Stream<Path> files = Files.walk(folder)) {
            all = files.sorted(Comparator.reverseOrder()).toList();
        }
        for (Path file : all) Files.delete(file);
    }

    public static void main(String[] args) throws IOException, InterruptedException, ReflectiveOperationException {
        String text = Files.readString(README);
        Path folder = Files.createTempDirectory("readme");
        try {
            List<String> examples = blocks(text, "java");
            if (examples.isEmpty()) wrong("there is no example");
            for (String example : examples) runExample(example, folder);
            lookForNames(text);
            copyProject(folder);
            List<String> commands = blocks(text, "sh");
            if (commands.isEmpty()) wrong("there are no commands");
            for (String block : commands) runCommands(block, folder);
        } finally {
            delete(folder);
        }
        System.out.println(wrong == 0 ? "README.md is as it says" : wrong + " things are not as README.md says");
        if (wrong != 0) System.exit(1);
    }
}
