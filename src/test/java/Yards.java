/** Small worlds that several tests begin with; tests extend it to have them by their short names. */
abstract class Yards {
    static final int NONE = -1, BAD = -2, STATE = -3, FULL = -4;
    static final int LEAST = Integer.MIN_VALUE, MOST = Integer.MAX_VALUE;

    /** Parts on these lines, with no rules. */
    static WarpYard yard(int... lines) {
        WarpYard y = new WarpYard();
        for (int line : lines) y.part(line);
        return y;
    }

    /** As many parts as there may be, all on line 0. */
    static WarpYard twelve() {
        return yard(new int[12]);
    }

    static void acts(WarpYard y, int part, int[]... acts) {
        for (int[] act : acts) y.rule(part, act[0], act[1], act[2], act[3]);
    }

    static int[] act(int act, int a, int b, int c) {
        return new int[] {act, a, b, c};
    }

    /** A part that did one event, number 0, at a minute with x. */
    static WarpYard one(int minute, int x, int[]... acts) {
        WarpYard y = yard(0);
        acts(y, 0, acts);
        y.start(0, minute, x);
        y.step(0);
        return y;
    }

    /** One part that sends itself eight events with each that it does. */
    static WarpYard breeder(int starts) {
        WarpYard y = yard(0);
        for (int i = 0; i < 8; i++) y.rule(0, 2, 0, 0, 20);
        for (int i = 0; i < starts; i++) y.start(0, 1 + i, 0);
        return y;
    }

    /** Part 0 on line 0 sends to part 1 on line 1, part 2 on line 2 holds the floor down. */
    static WarpYard three() {
        WarpYard y = yard(0, 1, 2);
        acts(y, 0, act(0, 0, 0, 0), act(2, 0, 1, 5));
        acts(y, 1, act(0, 0, 0, 0), act(5, 0, 0, 0));
        y.start(2, 1, 0);
        return y;
    }

    /**
     * Part 0 sends at odd minutes alone, so that it sends event 4 with the key of event 2, which
     * has a shadow. On the way: event 2, its shadow, event 4, all to part 1.
     */
    static WarpYard twins() {
        WarpYard y = yard(0, 1, 2);
        acts(y, 0, act(0, 0, 0, 0), act(1, 1, 2, 0), act(4, 1, 1, 0), act(2, 0, 1, 5));
        acts(y, 1, act(0, 0, 0, 0), act(5, 0, 0, 0));
        y.start(2, 1, 0);
        y.start(0, 21, 1);
        y.step(0);              // event 2 to part 1, x 1
        y.start(0, 10, 5);      // its shadow
        y.run(0, 2);            // event 4 to part 1, x 6
        return y;
    }

    /**
     * Nothing is open but the shadow of event 2 (minute 26, of part 0's event at 21), which is done
     * at part 1: part 0 sends while its cell 0 is odd, and no longer is it so at 21.
     */
    static WarpYard shadowAlone() {
        WarpYard y = yard(0, 1, 2);
        acts(y, 0, act(0, 0, 0, 0), act(4, 0, 1, 0), act(2, 0, 1, 5));
        y.start(2, 1, 0);
        y.start(0, 21, 1);
        y.step(0);              // event 2 to part 1 at 26
        y.deliver(0);
        y.step(1);
        y.start(0, 10, 1);      // event 3; the shadow of event 2 is on the way
        y.run(0, 2);            // event 4 to part 1 at 15
        y.deliver(1);           // part 1 goes back, and does event 4 and event 2 again
        y.run(1, 2);
        y.step(2);
        return y;
    }

    /** All that can be asked of a small world, in one text: some 500 calls with 40 events. */
    static String all(WarpYard y) {
        StringBuilder s = new StringBuilder();
        int[] counts = new int[9];
        for (int what = 0; what < 9; what++) s.append(counts[what] = y.count(what)).append(' ');
        for (int what = 0; what < 4; what++) s.append(y.floor(what)).append(' ');
        for (int p = 0; p < counts[0]; p++) {
            s.append("\npart ").append(p);
            for (int c = 0; c < 4; c++) s.append(' ').append(y.cell(p, c)).append(' ').append(y.settled(p, c));
            for (int what = 0; what < 8; what++) s.append(' ').append(y.told(p, what));
        }
        for (int e = 0; e < counts[1]; e++) {
            s.append("\nevent ").append(e).append(' ').append(y.number(e));
            for (int what = 0; what < 7; what++) s.append(' ').append(y.event(e, what));
        }
        for (int i = 0; i < counts[2]; i++) s.append("\nway ").append(y.way(i, 0)).append(' ').append(y.way(i, 1));
        for (int i = 0; i < counts[5]; i++) {
            s.append("\nout ").append(y.out(i, 0)).append(' ').append(y.out(i, 1)).append(' ').append(y.printed(i));
        }
        for (int what = 0; what < 3; what++) s.append("\nfailed ").append(y.failed(what));
        return s.append("\nsame ").append(y.same()).toString();
    }
}
