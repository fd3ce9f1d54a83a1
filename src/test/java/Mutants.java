import java.io.IOException;
import java.io.OutputStream;
import java.nio.file.Files;
import java.nio.file.Path;
import java.util.ArrayList;
import java.util.Arrays;
import java.util.List;
import java.util.concurrent.ExecutionException;
import java.util.concurrent.ExecutorService;
import java.util.concurrent.Executors;
import java.util.concurrent.Future;
import java.util.concurrent.TimeUnit;
import java.util.regex.Matcher;
import java.util.regex.Pattern;
import java.util.stream.Stream;
import javax.tools.ToolProvider;

/**
 * Tests the tests: breaks the class in one place at a time and tells which breaks no test finds.
 * It is no test itself and .ci/run leaves it out, for some breaks change no answer, and those that
 * it tells have to be read. From the project's folder: java -cp CLASSES Mutants CLASSES SomeTest ..
 */
final class Mutants {
    private static final Path SOURCE = Path.of("src/main/java/WarpYard.java");
    private static final int SECONDS = 60;

    /** What is looked for in a line, and what may stand there instead. */
    private static final String[][] SWAPS = {
        {" <= ", " < "}, {" < ", " <= "}, {" >= ", " > "}, {" > ", " >= "}, {" == ", " != "}, {" != ", " == "},
        {" && ", " || "}, {"|| ", "&& "}, {" + ", " - "}, {" - ", " + "}, {" * ", " + "}, {" / ", " * "}, {" % ", " / "},
        {"++;", "--;"}, {"--;", "++;"}, {" += ", " -= "}, {"true", "false"}, {"false", "true"}, {"!is", "is"},
        {"return BAD", "return STATE"}, {"return STATE", "return FULL"}, {"return FULL", "return NONE"},
        {"return NONE", "return BAD"}};

    private static final Pattern NUMBER = Pattern.compile("(?<![A-Za-z_0-9.])[0-9]+");
    private static final Pattern CHOICE = Pattern.compile("(.* \\? )(.*)( : )(.*)(;.*)");
    private static final Pattern STATEMENT =
            Pattern.compile("\\s+(break|continue|return|[A-Za-z_.\\[\\]0-9]+( [-+]?= .*|\\(.*\\)|\\+\\+|--));");

    private record Mutant(int line, String was, String is) { }

    private static List<Mutant> mutantsOf(List<String> lines) {
        List<Mutant> all = new ArrayList<>();
        for (int i = 0; i < lines.size(); i++) {
            String line = lines.get(i);
            if (line.isBlank() || line.strip().startsWith("*") || line.strip().startsWith("/")) continue;
            for (String[] swap : SWAPS) {
                for (int at = line.indexOf(swap[0]); at >= 0; at = line.indexOf(swap[0], at + 1)) {
                    all.add(new Mutant(i, line, replaced(line, at, at + swap[0].length(), swap[1])));
                }
            }
            Matcher number = NUMBER.matcher(line);
            while (number.find()) {
                int n = Integer.parseInt(number.group());
                all.add(new Mutant(i, line, replaced(line, number.start(), number.end(), Integer.toString(n - 1))));
                all.add(new Mutant(i, line, replaced(line, number.start(), number.end(), Integer.toString(n + 1))));
            }
            Matcher choice = CHOICE.matcher(line);
            if (choice.matches()) all.add(new Mutant(i, line, choice.replaceAll("$1$4$3$2$5")));
            if (STATEMENT.matcher(line).matches()) all.add(new Mutant(i, line, ";"));
        }
        return all;
    }

    private static String replaced(String line, int from, int to, String by) {
        return line.substring(0, from) + by + line.substring(to);
    }

    /** Whether it can't be compiled, or a test finds it. */
    private static boolean isFound(List<String> lines, Mutant m, String classes, List<String> tests)
            throws IOException, InterruptedException {
        Path folder = Files.createTempDirectory("mutant");
        List<String> text = new ArrayList<>(lines);
        text.set(m.line, m.is);
        Path file = Files.write(folder.resolve("WarpYard.java"), text);
        boolean found = ToolProvider.getSystemJavaCompiler().run(null, OutputStream.nullOutputStream(),
                OutputStream.nullOutputStream(), "-d", folder.toString(), file.toString()) != 0;
        for (int i = 0; i < tests.size() && !found; i++) found = fails(tests.get(i), folder + ":" + classes);
        try (Stream<Path> files = Files.list(folder)) {
            for (Path each : files.toList()) Files.delete(each);
        }
        Files.delete(folder);
        return found;
    }

    private static boolean fails(String test, String classPath) throws IOException, InterruptedException {
        Process p = new ProcessBuilder("java", "-XX:TieredStopAtLevel=1", "-cp", classPath, test)
                .redirectOutput(ProcessBuilder.Redirect.DISCARD).redirectError(ProcessBuilder.Redirect.DISCARD).start();
        boolean ended = p.waitFor(SECONDS, TimeUnit.SECONDS);
        if (!ended) p.destroyForcibly();
        return !ended || p.exitValue() != 0;
    }

    public static void main(String[] args) throws IOException, InterruptedException, ExecutionException {
        List<String> tests = Arrays.asList(args).subList(1, args.length);
        for (String test : tests) {
            if (fails(test, args[0])) System.out.println(test + " fails with nothing broken");
        }
        List<String> lines = Files.readAllLines(SOURCE);
        List<Mutant> mutants = mutantsOf(lines);
        ExecutorService workers = Executors.newFixedThreadPool(Runtime.getRuntime().availableProcessors());
        List<Future<Boolean>> found = new ArrayList<>();
        for (Mutant m : mutants) found.add(workers.submit(() -> isFound(lines, m, args[0], tests)));
        int missed = 0;
        for (int i = 0; i < mutants.size(); i++) {
            if (found.get(i).get()) continue;
            missed++;
            Mutant m = mutants.get(i);
            System.out.println((m.line + 1) + ": " + m.was.strip() + "\n     -> " + m.is.strip());
        }
        workers.shutdown();
        System.out.println(mutants.size() + " breaks, " + missed + " found by no test");
    }
}
