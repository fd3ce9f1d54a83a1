import java.util.ArrayList;
import java.util.List;
import java.util.Random;
import java.util.TreeMap;

/** Runs of random calls, each answer compared with the model's. The seeds are fixed. */
public final class ModelTest {
    private static final int CALLS = 512;

    private static final String[] RARE = {"event meets a waiting shadow", "event sends a part back",
        "failure 1", "failure 2", "failure 3", "failure 4", "failure 5", "failure 6", "full", "limit",
        "one key twice", "shadow meets one done", "shadow meets one not done", "shadow waits",
        "taken back by its number alone", "three or more taken back"};

    private static final int[] FAR = {Integer.MIN_VALUE, Integer.MIN_VALUE + 1, -100001, -401, -9, -4, -3, -2, 12, 16, 200,
        201, 392, 393, 399, 400, 401, 1000, 1001, 100000, 100001, Integer.MAX_VALUE - 1, Integer.MAX_VALUE};

    private final Random random;
    private final Model model = new Model();
    private final WarpYard yard = new WarpYard();
    private final List<Call> calls = new ArrayList<>();
    private final int lines;
    private final int reach;
    private final int sense;
    private boolean wrong;

    private ModelTest(long seed) {
        random = new Random(seed);
        lines = 1 + random.nextInt(4);
        reach = 1 + random.nextInt(40);
        sense = seed % 5 == 0 ? 8 : 60;
    }

    private int below(int n) {
        return random.nextInt(n);
    }

    private int between(int low, int high) {
        return low + random.nextInt(high - low + 1);
    }

    /** Mostly 0 .. n-1; at times a little beside it, or far off. */
    private int index(int n) {
        int dice = below(sense);
        if (dice == 0) return n;
        if (dice == 1) return -1;
        if (dice == 2) return random.nextInt();
        if (dice == 3) return FAR[below(FAR.length)];
        return n > 0 ? below(n) : below(3);
    }

    private void call(String name, int... args) {
        if (wrong || calls.size() == CALLS) return;
        Call c = new Call(name, args);
        calls.add(c);
        int due = c.on(model);
        int got = c.on(yard);
        if (got != due) {
            wrong = true;
            System.out.println("a run of " + calls.size() + " calls:");
            for (Call each : calls) System.out.println("  " + each.text());
            System.out.println("  answered " + got + ", due is " + due);
        }
    }

    private void build() {
        int parts = below(8) == 0 ? 13 : 1 + below(6);
        for (int p = 0; p < parts; p++) {
            call("part", below(40) == 0 ? index(4) : below(lines));
            int row = below(3) == 0 ? 0 : below(10);
            for (int i = 0; i < row; i++) call("tear", index(parts), between(-20, 40));
        }
        int sends = 1 + below(3);
        for (int p = 0; p < parts; p++) {
            int acts = below(10);
            for (int i = 0; i < acts; i++) {
                int act = below(sends) > 0 ? 2 : index(8);
                int c = below(12) == 0 ? between(-4, 21) : between(1, 6);
                call("rule", below(8) == 0 ? index(parts) : p, act, index(16), index(16), c);
            }
        }
    }

    private void start() {
        int floor = Math.max(model.floor(0), 0);
        int minute = below(25) == 0 ? between(99990, 100001) : floor + between(-1, reach);
        int x = below(6) == 0 ? random.nextInt() : between(-9, 30);
        if (below(4 * sense) == 0) minute = FAR[below(FAR.length)];
        call("start", index(model.parts.size()), minute, x);
    }

    private void act() {
        switch (below(13)) {
            case 0 -> start();
            case 1, 2, 3 -> call("step", index(lines));
            case 4 -> call("run", index(lines), below(20) == 0 ? index(201) : below(7));
            case 5, 6, 7 -> call("deliver", index(model.way.size()));
            case 8 -> {
                if (below(8) == 0) call("deliverAll");
            }
            case 9 -> call("move", index(model.parts.size()), index(lines));
            case 10 -> {
                if (below(10) == 0) call("limit", below(3) == 0 ? NONE_OR_ODD[below(4)] : index(20));
            }
            case 11 -> {
                if (below(4) == 0) call("keep", below(2) == 0 ? between(0, 10) : index(10));
            }
            default -> call("same");
        }
    }

    private static final int[] NONE_OR_ODD = {-1, -2, 1000, 1001};

    private void look() {
        int parts = model.parts.size();
        switch (below(11)) {
            case 0 -> call("floor", index(4));
            case 1 -> call("cell", index(parts), index(4));
            case 2 -> call("settled", index(parts), index(4));
            case 3 -> call("told", index(parts), index(8));
            case 4 -> call("event", index(model.events.size()), index(7));
            case 5 -> call("number", index(model.events.size()));
            case 6 -> call("way", index(model.way.size()), index(2));
            case 7 -> call("count", index(9));
            case 8 -> call("out", index(model.count(5)), index(2));
            case 9 -> call("printed", index(model.count(5)));
            default -> call("failed", index(3));
        }
    }

    private void go() {
        build();
        int lookEvery = 1 + below(4);
        for (int i = 0; i < 2 * CALLS && !wrong && calls.size() < CALLS; i++) {
            if (below(lookEvery + 1) == 0) {
                act();
            } else if (below(2) == 0) {
                look();
            } else {
                act();
            }
        }
    }

    public static void main(String[] args) {
        int runs = args.length > 0 ? Integer.parseInt(args[0]) : 1500;
        long first = args.length > 1 ? Long.parseLong(args[1]) : 1;
        TreeMap<String, Integer> seen = new TreeMap<>();
        int calls = 0;
        for (long seed = first; seed < first + runs; seed++) {
            ModelTest t = new ModelTest(seed);
            t.go();
            if (t.wrong) {
                System.out.println("seed " + seed);
                System.exit(1);
            }
            calls += t.calls.size();
            t.model.seen.forEach((k, v) -> seen.merge(k, v, Integer::sum));
        }
        System.out.println(runs + " runs, " + calls + " calls as due; " + seen);
        for (String rare : RARE) {
            if (!seen.containsKey(rare)) {
                System.out.println("no run came to: " + rare);
                System.exit(1);
            }
        }
    }
}
