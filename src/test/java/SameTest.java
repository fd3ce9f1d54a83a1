import java.lang.reflect.Array;
import java.lang.reflect.Field;

/**
 * Promise 24: no run of calls makes same() answer 0, so that a same() that always answers 1 could
 * not be told from a right one. This test reaches into an object and spoils one thing at a time.
 */
public final class SameTest {
    private static int wrong = 0;

    private static void due(String what, int got, int want) {
        if (got != want) {
            wrong++;
            System.out.println("promise 24: same(), " + what + ", answered " + got + ", due is " + want);
        }
    }

    private static Object in(Object object, String name) throws ReflectiveOperationException {
        Field field = object.getClass().getDeclaredField(name);
        field.setAccessible(true);
        return field.get(object);
    }

    private static void set(Object object, String name, int value) throws ReflectiveOperationException {
        Field field = object.getClass().getDeclaredField(name);
        field.setAccessible(true);
        field.setInt(object, value);
    }

    private static Object element(Object object, String name, int i) throws ReflectiveOperationException {
        return Array.get(in(object, name), i);
    }

    /** Settled events 0 to 4, of which all but the last print and two fail, and one above the floor. */
    private static WarpYard yard() {
        WarpYard y = new WarpYard();
        y.part(0);
        y.part(1);
        y.part(1);
        y.rule(0, 0, 0, 0, 0);
        y.rule(0, 2, 0, 1, 5);
        y.rule(0, 5, 0, 0, 0);
        y.rule(1, 0, 3, 0, 0);
        y.rule(1, 5, 3, 0, 0);
        y.rule(1, 6, 3, 0, 0);
        y.start(0, 10, 3);
        y.start(0, 20, 4);
        y.run(0, 2);
        y.start(2, 22, 0);
        y.deliverAll();
        y.run(1, 3);
        y.start(1, 30, 1);
        y.start(0, 40, 1);
        y.step(0);
        return y;
    }

    public static void main(String[] args) throws ReflectiveOperationException {
        due("nothing spoilt", yard().same(), 1);

        WarpYard y = yard();
        ((int[]) in(in(element(y, "parts", 1), "state"), "cells"))[3]++;
        due("a settled cell of part 1 is another", y.same(), 0);

        y = yard();
        ((int[]) in(in(element(y, "parts", 0), "state"), "cells"))[0]++;
        due("a cell that is not settled is another", y.same(), 1);

        for (int part = 0; part < 3; part++) {
            for (int cell = 0; cell < 4; cell++) {
                y = yard();
                y.step(1);
                ((int[]) in(in(element(y, "parts", part), "state"), "cells"))[cell]++;
                due("all is settled, cell " + cell + " of part " + part + " is another", y.same(), 0);
            }
        }

        for (int e = 0; e < 4; e++) {
            y = yard();
            ((int[]) in(element(y, "events", e), "printed"))[0]++;
            due("what event " + e + " printed is another", y.same(), 0);
        }

        y = yard();
        set(element(y, "events", 1), "printCount", 0);
        due("less is out", y.same(), 0);

        y = yard();
        set(element(y, "events", 3), "minute", 26);
        due("an event that was sent printed at another minute", y.same(), 0);

        y = yard();
        set(element(y, "events", 3), "part", 0);
        due("another part printed", y.same(), 0);

        y = yard();
        set(element(y, "events", 2), "failure", 0);
        due("fewer failed", y.same(), 0);

        y = yard();
        set(element(y, "events", 4), "how", 4);
        due("fewer are settled", y.same(), 0);

        y = yard();
        set(element(y, "events", 0), "x", 5);
        due("a start's number is another", y.same(), 0);

        System.out.println(wrong == 0 ? "same() sees what differs" : wrong + " answers are not as due");
        if (wrong != 0) System.exit(1);
    }
}
