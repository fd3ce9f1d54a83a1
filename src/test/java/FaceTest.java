import java.io.IOException;
import java.lang.reflect.Constructor;
import java.lang.reflect.Field;
import java.lang.reflect.Method;
import java.lang.reflect.Modifier;
import java.nio.file.Files;
import java.nio.file.Path;
import java.util.Arrays;
import java.util.HashSet;
import java.util.List;
import java.util.Set;
import java.util.TreeMap;

/** The document's public face, and what of LANGUAGE.md can be read off the class and its source. */
public final class FaceTest {
    private static int wrong = 0;

    private static void due(boolean holds, String what) {
        if (!holds) {
            wrong++;
            System.out.println("not so: " + what);
        }
    }

    /** The methods and how many ints each takes; all answer an int. */
    private static TreeMap<String, Integer> methods() {
        TreeMap<String, Integer> m = new TreeMap<>();
        for (String name : List.of("deliverAll", "same")) m.put(name, 0);
        for (String name : List.of("part", "step", "deliver", "limit", "keep", "floor", "number", "count",
                "printed", "failed")) m.put(name, 1);
        for (String name : List.of("tear", "run", "move", "cell", "settled", "told", "event", "way", "out")) m.put(name, 2);
        m.put("start", 3);
        m.put("rule", 5);
        return m;
    }

    private static void face() throws ReflectiveOperationException {
        Class<?> c = WarpYard.class;
        due(Modifier.isPublic(c.getModifiers()) && Modifier.isFinal(c.getModifiers()), "the class is public and final");
        Constructor<?>[] made = c.getDeclaredConstructors();
        due(made.length == 1 && made[0].getParameterCount() == 0 && Modifier.isPublic(made[0].getModifiers()),
                "there is one constructor, public, of no parameters");
        TreeMap<String, Integer> left = methods();
        Set<String> names = new HashSet<>(left.keySet());
        for (Method m : c.getDeclaredMethods()) {
            if (names.contains(m.getName())) {
                due(Modifier.isPublic(m.getModifiers()) && !Modifier.isStatic(m.getModifiers()), m + " is of the face");
                due(m.getReturnType() == int.class, m + " answers an int");
                due(Arrays.stream(m.getParameterTypes()).allMatch(p -> p == int.class), m + " takes ints");
                due(Integer.valueOf(m.getParameterCount()).equals(left.remove(m.getName())), m + " takes as many as it should, once");
            } else {
                due(Modifier.isPrivate(m.getModifiers()), m + " is private");
            }
            due(m.getParameterCount() <= 7, m + " takes at most seven");
        }
        due(left.isEmpty(), "all methods are there; missing: " + left.keySet());
        fields(c);
        for (Class<?> inside : c.getDeclaredClasses()) {
            due(Modifier.isStatic(inside.getModifiers()), inside + " is static");
            for (Method m : inside.getDeclaredMethods()) {
                due(!names.contains(m.getName()), m + " bears no public name");
            }
        }
        due(c.getDeclaredClasses().length <= 11, "at most some twelve classes");
    }

    private static void fields(Class<?> c) throws ReflectiveOperationException {
        String[] constants = {"NONE", "BAD", "STATE", "FULL"};
        for (int i = 0; i < constants.length; i++) {
            Field f = c.getDeclaredField(constants[i]);
            due(f.getModifiers() == (Modifier.PUBLIC | Modifier.STATIC | Modifier.FINAL), f + " is public static final");
            due(f.getType() == int.class && f.getInt(null) == -1 - i, f + " is " + (-1 - i));
        }
        for (Field f : c.getDeclaredFields()) {
            if (!Arrays.asList(constants).contains(f.getName())) due(Modifier.isPrivate(f.getModifiers()), f + " is private");
            if (Modifier.isStatic(f.getModifiers())) due(Modifier.isFinal(f.getModifiers()), f + " is final");
        }
    }

    private static void source() throws IOException {
        String text = Files.readString(Path.of("src/main/java/WarpYard.java"));
        String code = text.replaceAll("(?s)/\\*.*?\\*/", " ").replaceAll("//[^\n]*", " ");
        for (String word : List.of("throw", "throws", "try", "catch", "synchronized", "assert", "import", "package", "goto")) {
            due(!code.matches("(?s).*\\b" + word + "\\b.*"), "no word " + word);
        }
        for (String sign : List.of("->", "::", "\"", "Exact", "System.", "Thread", "toString", "hashCode", "@")) {
            due(!code.contains(sign), "no " + sign);
        }
        due(text.chars().allMatch(ch -> ch < 128), "plain letters alone");
    }

    public static void main(String[] args) throws ReflectiveOperationException, IOException {
        face();
        source();
        System.out.println(wrong == 0 ? "the face is the document's" : wrong + " things are not so");
        if (wrong != 0) System.exit(1);
    }
}
