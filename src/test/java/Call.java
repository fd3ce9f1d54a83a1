/** One call, made on WarpYard and on the model alike. */
record Call(String name, int... args) {
    int on(WarpYard y) {
        int[] g = args;
        return switch (name) {
            case "part" -> y.part(g[0]);
            case "tear" -> y.tear(g[0], g[1]);
            case "rule" -> y.rule(g[0], g[1], g[2], g[3], g[4]);
            case "start" -> y.start(g[0], g[1], g[2]);
            case "step" -> y.step(g[0]);
            case "run" -> y.run(g[0], g[1]);
            case "deliver" -> y.deliver(g[0]);
            case "deliverAll" -> y.deliverAll();
            case "move" -> y.move(g[0], g[1]);
            case "limit" -> y.limit(g[0]);
            case "keep" -> y.keep(g[0]);
            case "floor" -> y.floor(g[0]);
            case "cell" -> y.cell(g[0], g[1]);
            case "settled" -> y.settled(g[0], g[1]);
            case "told" -> y.told(g[0], g[1]);
            case "event" -> y.event(g[0], g[1]);
            case "number" -> y.number(g[0]);
            case "way" -> y.way(g[0], g[1]);
            case "count" -> y.count(g[0]);
            case "out" -> y.out(g[0], g[1]);
            case "printed" -> y.printed(g[0]);
            case "failed" -> y.failed(g[0]);
            case "same" -> y.same();
            default -> throw new IllegalArgumentException(name);
        };
    }

    int on(Model m) {
        int[] g = args;
        return switch (name) {
            case "part" -> m.part(g[0]);
            case "tear" -> m.tear(g[0], g[1]);
            case "rule" -> m.rule(g[0], g[1], g[2], g[3], g[4]);
            case "start" -> m.start(g[0], g[1], g[2]);
            case "step" -> m.step(g[0]);
            case "run" -> m.run(g[0], g[1]);
            case "deliver" -> m.deliver(g[0]);
            case "deliverAll" -> m.deliverAll();
            case "move" -> m.move(g[0], g[1]);
            case "limit" -> m.limit(g[0]);
            case "keep" -> m.keep(g[0]);
            case "floor" -> m.floor(g[0]);
            case "cell" -> m.cell(g[0], g[1]);
            case "settled" -> m.settled(g[0], g[1]);
            case "told" -> m.told(g[0], g[1]);
            case "event" -> m.event(g[0], g[1]);
            case "number" -> m.number(g[0]);
            case "way" -> m.way(g[0], g[1]);
            case "count" -> m.count(g[0]);
            case "out" -> m.out(g[0], g[1]);
            case "printed" -> m.printed(g[0]);
            case "failed" -> m.failed(g[0]);
            case "same" -> m.same();
            default -> throw new IllegalArgumentException(name);
        };
    }

    String text() {
        StringBuilder s = new StringBuilder(name).append('(');
        for (int i = 0; i < args.length; i++) s.append(i == 0 ? "" : ", ").append(args[i]);
        return s.append(')').toString();
    }
}
