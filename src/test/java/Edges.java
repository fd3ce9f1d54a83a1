import java.io.IOException;
import java.lang.annotation.ElementType;
import java.lang.annotation.Retention;
import java.lang.annotation.RetentionPolicy;
import java.lang.annotation.Target;
import java.lang.reflect.InvocationTargetException;
import java.lang.reflect.Method;
import java.nio.file.Files;
import java.nio.file.Path;
import java.util.ArrayList;
import java.util.Comparator;
import java.util.List;
import java.util.function.IntUnaryOperator;

/**
 * Runs the tests of a class, each on its own: a test is a static method that names a promise and
 * the sentence of the document that it holds, in the document's words.
 */
abstract class Edges extends Yards {
    private static final Path DOCUMENT = Path.of("../shared/DOC.md");

    /** The sentence stands in the promise's section or among the terms. */
    @Retention(RetentionPolicy.RUNTIME)
    @Target(ElementType.METHOD)
    @interface Says {
        int promise();

        String value();
    }

    private static int wrong = 0;
    private static String where = "";

    static void due(String call, int got, int want) {
        if (got != want) tellWrong(call + " answered " + got + ", due is " + want);
    }

    static void due(String call, String got, String want) {
        if (!got.equals(want)) tellWrong(call + " told\n" + got + "\ndue is\n" + want);
    }

    /** One call with each of these numbers at the place _ in its text. */
    static void each(int want, String call, IntUnaryOperator on, int... numbers) {
        for (int n : numbers) due(call.replace("_", Integer.toString(n)), on.applyAsInt(n), want);
    }

    /** What a call answers for 0, 1, 2 .. at the place _ in its text. */
    static void row(String call, IntUnaryOperator on, int... want) {
        for (int i = 0; i < want.length; i++) due(call.replace("_", Integer.toString(i)), on.applyAsInt(i), want[i]);
    }

    private static void tellWrong(String what) {
        wrong++;
        System.out.println(where + ": " + what);
    }

    /** Each promise from 1 to the last named has to have a test. */
    static void runAll(Class<?> tests, int lastPromise) throws IOException {
        List<Method> methods = testsOf(tests);
        for (int promise = 1; promise <= lastPromise; promise++) {
            where = "promise " + promise;
            if (!isNamed(methods, promise)) tellWrong("no test names it");
        }
        String document = Files.exists(DOCUMENT) ? plain(Files.readString(DOCUMENT)) : null;
        if (document == null) System.out.println("no " + DOCUMENT + ": whether the sentences stand there is not tested");
        for (Method test : methods) {
            Says says = test.getAnnotation(Says.class);
            where = "promise " + says.promise() + ", '" + says.value() + "' (" + test.getName() + ")";
            if (document != null && !stands(document, says)) tellWrong("the document doesn't say so there");
            run(test);
        }
        System.out.println(methods.size() + " tests, " + (wrong == 0 ? "all as due" : wrong + " answers are not as due"));
        if (wrong != 0) System.exit(1);
    }

    private static List<Method> testsOf(Class<?> tests) {
        List<Method> methods = new ArrayList<>();
        for (Method m : tests.getDeclaredMethods()) {
            if (m.isAnnotationPresent(Says.class)) methods.add(m);
        }
        methods.sort(Comparator.comparingInt((Method m) -> m.getAnnotation(Says.class).promise())
                .thenComparing(Method::getName));
        return methods;
    }

    private static boolean isNamed(List<Method> methods, int promise) {
        return methods.stream().anyMatch(m -> m.getAnnotation(Says.class).promise() == promise);
    }

    private static void run(Method test) {
        try {
            test.setAccessible(true);
            test.invoke(null);
        } catch (InvocationTargetException e) {
            tellWrong("a call threw " + e.getCause());
        } catch (IllegalAccessException e) {
            tellWrong("the test can't be run: " + e);
        }
    }

    private static boolean stands(String document, Says says) {
        String sentence = plain(says.value());
        return section(document, "## Promise " + says.promise() + ":").contains(sentence)
                || section(document, "## Terms").contains(sentence)
                || section(document, "## What it is").contains(sentence);
    }

    private static String section(String document, String title) {
        int from = document.indexOf(title);
        if (from < 0) return "";
        int to = document.indexOf("## ", from + 3);
        return to < 0 ? document.substring(from) : document.substring(from, to);
    }

    private static String plain(String text) {
        return text.replaceAll("\\s+", " ");
    }
}
