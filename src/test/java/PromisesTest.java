/** Each promise of the document: ordinary inputs, the edges that it names, wrong inputs. */
public final class PromisesTest extends Yards {
    private static int wrong = 0;
    private static String where = "";

    private static void due(String call, int got, int want) {
        if (got != want) {
            wrong++;
            System.out.println(where + ": " + call + " answered " + got + ", due is " + want);
        }
    }

    public static void main(String[] args) {
        where = "promise 1"; newObject();
        where = "promise 2"; part();
        where = "promise 3"; tear();
        where = "promise 4"; rule();
        where = "promise 5"; start(); startFull(); startSendsBack();
        where = "promise 6"; step(); stepByKeys(); stepFull(); stepLimitAheadOfFull();
        where = "acts"; act0(); act1(); act2(); act2Late(); act3(); act4(); act5(); act6(); act7(); failing();
        where = "promise 7"; run();
        where = "promise 8"; deliver(); shadowFirst(); shadowOfDone(); oneKeyTwice(); shadowOrder(); turns();
        where = "promise 9"; deliverAll();
        where = "promise 10"; move();
        where = "promise 11"; limit();
        where = "promise 12"; keep();
        where = "promise 13"; floor();
        where = "promise 14"; cell();
        where = "promise 15"; settled();
        where = "promise 16"; told();
        where = "promise 17"; event();
        where = "promise 18"; number();
        where = "promise 19"; way();
        where = "promise 20"; count();
        where = "promise 21"; out();
        where = "promise 22"; printed();
        where = "promise 23"; failed();
        where = "promise 24"; same();
        System.out.println(wrong == 0 ? "all promises hold" : wrong + " answers are not as due");
        if (wrong != 0) System.exit(1);
    }

    private static void newObject() {
        WarpYard y = new WarpYard();
        for (int what = 0; what <= 8; what++) due("count(" + what + ")", y.count(what), 0);
        for (int what = 0; what <= 3; what++) due("floor(" + what + ")", y.floor(what), -9);
        due("limit(NONE)", y.limit(NONE), NONE);
        due("told(0, 0)", y.told(0, 0), BAD);
        due("event(0, 0)", y.event(0, 0), BAD);
        due("start(0, 1, 1)", y.start(0, 1, 1), BAD);
        due("step(0)", y.step(0), NONE);
        due("run(0, 200)", y.run(0, 200), 0);
        due("deliver(0)", y.deliver(0), BAD);
        due("deliverAll()", y.deliverAll(), 0);
        due("move(0, 0)", y.move(0, 0), BAD);
        due("failed(0)", y.failed(0), NONE);
        due("same()", y.same(), 1);
        WarpYard other = yard(1);
        due("count(0) beside another object", y.count(0), 0);
        due("count(0)", other.count(0), 1);
    }

    private static void part() {
        WarpYard y = new WarpYard();
        due("part(-1)", y.part(-1), BAD);
        due("part(4)", y.part(4), BAD);
        for (int i = 0; i < 12; i++) due("part(" + i % 4 + ")", y.part(i % 4), i);
        due("part(0), the 13th", y.part(0), FULL);
        due("part(4), the 13th", y.part(4), BAD);
        for (int i = 0; i < 12; i++) due("told(" + i + ", 0)", y.told(i, 0), i % 4);
        for (int c = 0; c < 4; c++) due("cell(11, " + c + ")", y.cell(11, c), 0);
        due("count(0)", y.count(0), 12);
        y.start(0, 5, 0);
        due("part(0) behind a start", y.part(0), STATE);
        due("part(9) behind a start", y.part(9), BAD);
        WarpYard z = yard(0);
        z.start(0, 5, 0);
        due("part(0) behind a start, not full", z.part(0), STATE);
    }

    private static void tear() {
        WarpYard y = yard(0, 0);
        due("tear(2, 1)", y.tear(2, 1), BAD);
        due("tear(-1, 1)", y.tear(-1, 1), BAD);
        int[] row = {7, LEAST, MOST, 0, -1, 5, 6, 9};
        for (int i = 0; i < 8; i++) due("tear(1, ..)", y.tear(1, row[i]), i + 1);
        due("tear(1, 1), the 9th", y.tear(1, 1), FULL);
        due("tear(0, 3)", y.tear(0, 3), 1);
        acts(y, 1, act(3, 2, 0, 0));
        acts(y, 0, act(3, 0, 0, 0));
        for (int i = 0; i < 8; i++) {
            y.start(1, 10 + i, 0);
            y.step(0);
            due("cell(1, 2) behind " + (i + 1) + " draws", y.cell(1, 2), row[i]);
        }
        y.start(0, 20, 0);
        y.step(0);
        due("cell(0, 0)", y.cell(0, 0), 3);
        due("tear(0, 3) behind a start", y.tear(0, 3), STATE);
        due("tear(1, 3) behind a start, full", y.tear(1, 3), STATE);
        due("tear(5, 3) behind a start", y.tear(5, 3), BAD);
        WarpYard z = yard(0);
        z.start(0, 5, 0);
        due("tear(0, 3) behind the first start", z.tear(0, 3), STATE);
    }

    private static void rule() {
        WarpYard y = yard(0, 0);
        due("rule(-1, ..)", y.rule(-1, 0, 0, 0, 0), BAD);
        due("rule(2, ..)", y.rule(2, 0, 0, 0, 0), BAD);
        due("act -1", y.rule(0, -1, 0, 0, 0), BAD);
        due("act 8", y.rule(0, 8, 0, 0, 0), BAD);
        due("a -1", y.rule(0, 0, -1, 0, 0), BAD);
        due("a 16", y.rule(0, 0, 16, 0, 0), BAD);
        due("b -1", y.rule(0, 0, 0, -1, 0), BAD);
        due("b 16", y.rule(0, 0, 0, 16, 0), BAD);
        due("c -4", y.rule(0, 0, 0, 0, -4), BAD);
        due("c 21", y.rule(0, 0, 0, 0, 21), BAD);
        due("least of all", y.rule(0, 0, 0, 0, -3), 1);
        due("most of all", y.rule(0, 7, 15, 15, 20), 2);
        for (int i = 3; i <= 8; i++) due("act " + i, y.rule(0, 5, 0, 0, 0), i);
        due("the 9th", y.rule(0, 5, 0, 0, 0), FULL);
        due("the 9th, wrong", y.rule(0, 8, 0, 0, 0), BAD);
        due("of another part", y.rule(1, 5, 0, 0, 0), 1);
        y.start(0, 1, 0);
        due("behind a start", y.rule(1, 5, 0, 0, 0), STATE);
        due("behind a start, full", y.rule(0, 5, 0, 0, 0), STATE);
        due("behind a start, wrong", y.rule(0, 5, 0, 0, 21), BAD);
    }

    private static void start() {
        WarpYard y = yard(0, 1);
        due("start(2, 1, 0)", y.start(2, 1, 0), BAD);
        due("start(-1, 1, 0)", y.start(-1, 1, 0), BAD);
        due("start(0, -1, 0)", y.start(0, -1, 0), BAD);
        due("start(0, 100001, 0)", y.start(0, 100001, 0), BAD);
        due("start(0, 0, 5)", y.start(0, 0, 5), 0);
        due("start(1, 0, 5): the floor's minute", y.start(1, 0, 5), STATE);
        due("start(1, 100000, -5)", y.start(1, 100000, -5), 1);
        due("start(1, 1, -5)", y.start(1, 1, -5), 2);
        int[][] keys = {{0, 0, -1, -1, 0}, {1, 100000, -1, -1, 1}, {1, 1, -1, -1, 2}};
        for (int e = 0; e < 3; e++) {
            for (int what = 0; what < 5; what++) due("event(" + e + ", " + what + ")", y.event(e, what), keys[e][what]);
            due("event(" + e + ", 5)", y.event(e, 5), 0);
        }
        y.step(0);
        due("start(0, 1, 0): the floor is at 1 now", y.start(0, 1, 0), STATE);
        y.run(1, 2);
        due("floor(0)", y.floor(0), -9);
        due("start(0, 100000, 0), all are done", y.start(0, 100000, 0), STATE);
        due("start(0, 5, 0), all are done", y.start(0, 5, 0), STATE);
        due("count(8)", y.count(8), 3);

        WarpYard z = yard(0);
        z.start(0, 7, 0);
        z.step(0);
        due("start(0, 7, 0) behind one done", z.start(0, 7, 0), STATE);
        due("start(0, 8, 0) behind one done", z.start(0, 8, 0), 1);

        // Event 2 (minute 25) is sent while cell 0 is odd, and is gone when it no longer is.
        WarpYard w = yard(0, 0, 1);
        acts(w, 0, act(0, 0, 0, 0), act(4, 0, 1, 0), act(2, 0, 1, 5));
        w.start(2, 1, 0);
        w.start(0, 20, 1);
        w.step(0);
        w.start(0, 10, 1);
        w.run(0, 9);
        w.step(1);
        due("event(2, 5)", w.event(2, 5), 4);
        due("floor(0)", w.floor(0), -9);
        due("start(0, 20, 0), all are done or gone", w.start(0, 20, 0), STATE);
        due("start(0, 21, 0), ahead of one gone", w.start(0, 21, 0), 5);
    }

    private static void startFull() {
        WarpYard y = breeder(1);
        due("run(0, 200)", y.run(0, 200), 49);
        due("count(1)", y.count(1), 393);
        for (int e = 393; e < 400; e++) due("start to " + (e + 1), y.start(0, 9000 + e, 0), e);
        due("start, 401st", y.start(0, 9999, 0), FULL);
        due("start, 401st, too early", y.start(0, 1, 0), STATE);
        due("start, 401st, wrong", y.start(1, 9999, 0), BAD);
        due("count(1)", y.count(1), 400);
        due("number(399)", y.number(399), 0);
        due("event(399, 1)", y.event(399, 1), 9399);
        due("event(400, 1)", y.event(400, 1), BAD);
        due("same()", y.same(), 1);
    }

    private static void startSendsBack() {
        WarpYard y = yard(0, 1);
        acts(y, 0, act(1, 0, 0, 3));
        y.start(1, 1, 0);
        y.start(0, 10, 0);
        y.start(0, 20, 0);
        y.run(0, 2);
        due("cell(0, 0)", y.cell(0, 0), 50);
        due("start(0, 15, 0)", y.start(0, 15, 0), 3);
        due("cell(0, 0), gone back", y.cell(0, 0), 10);
        due("step(0)", y.step(0), 3);
        due("step(0)", y.step(0), 2);
        due("cell(0, 0)", y.cell(0, 0), 155);
        due("start(0, 20, 0): a later one of the same minute", y.start(0, 20, 0), 4);
        due("cell(0, 0), nothing was above it", y.cell(0, 0), 155);
        due("told(0, 2)", y.told(0, 2), 1);
    }

    private static void step() {
        WarpYard y = yard(0, 1, 0);
        due("step(-1)", y.step(-1), BAD);
        due("step(4)", y.step(4), BAD);
        due("step(0)", y.step(0), NONE);
        y.start(1, 1, 0);
        y.start(0, 9, 0);
        y.start(2, 5, 0);
        due("step(3)", y.step(3), NONE);
        due("step(0)", y.step(0), 2);
        due("step(0)", y.step(0), 1);
        due("step(0)", y.step(0), NONE);
        due("event(0, 5)", y.event(0, 5), 0);
        due("event(1, 5)", y.event(1, 5), 1);
        due("step(1)", y.step(1), 0);
        due("event(1, 5)", y.event(1, 5), 2);
    }

    /** Five events at one minute: by the sender's minute, then the sender, then the count. */
    private static void stepByKeys() {
        WarpYard y = yard(0, 0, 0);
        acts(y, 0, act(2, 0, 2, 7));
        acts(y, 1, act(2, 0, 2, 8), act(2, 0, 2, 7), act(2, 0, 2, 7));
        y.start(1, 3, 0);
        y.start(0, 4, 0);
        y.start(1, 4, 0);
        y.start(2, 11, 0);
        due("step(0)", y.step(0), 0);   // events 4 (minute 11), 5, 6 (minute 10)
        due("step(0)", y.step(0), 1);   // event 7 (minute 11, of part 0)
        due("step(0)", y.step(0), 2);   // events 8 (minute 12), 9, 10 (minute 11, of part 1)
        int[] order = {5, 6, 3, 4, 7, 9, 10, 8};
        for (int e : order) due("step(0)", y.step(0), e);
        int[][] keys = {{4, 11, 3, 1, 0}, {6, 10, 3, 1, 2}, {7, 11, 4, 0, 0}, {8, 12, 4, 1, 3}, {10, 11, 4, 1, 5}};
        for (int[] k : keys) {
            for (int what = 1; what <= 4; what++) due("event(" + k[0] + ", " + what + ")", y.event(k[0], what), k[what]);
        }
    }

    private static void stepFull() {
        WarpYard y = breeder(8);
        due("run(0, 200)", y.run(0, 48), 48);
        due("count(1)", y.count(1), 392);
        due("step(0) with 392", y.step(0) >= 0 ? 1 : 0, 1);
        due("count(1)", y.count(1), 400);
        due("step(0) with 400", y.step(0), FULL);
        due("run(0, 5) with 400", y.run(0, 5), 0);
        due("step(1) with 400, nothing to do", y.step(1), NONE);
        due("step(4) with 400", y.step(4), BAD);
        due("same()", y.same(), 1);
        WarpYard z = breeder(9);
        due("run(0, 200)", z.run(0, 200), 48);
        due("step(0) with 393", z.step(0), FULL);
    }

    private static void stepLimitAheadOfFull() {
        WarpYard y = yard(0, 1);
        for (int i = 0; i < 8; i++) y.rule(0, 2, 0, 0, 20);
        y.start(1, 1, 0);
        y.start(0, 2, 0);
        y.run(0, 200);
        due("step(0)", y.step(0), FULL);
        y.limit(3);
        due("step(0), beyond the limit too", y.step(0), STATE);
    }

    private static void act0() {
        WarpYard y = one(3, MOST, act(0, 5, 15, 9), act(0, 2, 4, 0));
        due("cell(0, 1)", y.cell(0, 1), MOST + 15);
        due("cell(0, 2)", y.cell(0, 2), MOST + 4);
        due("cell(0, 0)", y.cell(0, 0), 0);
        y.start(0, 4, -1);
        y.step(0);
        due("cell(0, 1)", y.cell(0, 1), MOST + 29);
    }

    private static void act1() {
        WarpYard y = one(100, 1 << 30, act(0, 4, 1, 0), act(1, 15, 8, -3), act(1, 1, 3, 20));
        due("cell(0, 0)", y.cell(0, 0), (1 << 30) + 1);
        due("cell(0, 3)", y.cell(0, 3), ((1 << 30) + 1) * -3 + 100);
        due("cell(0, 1)", y.cell(0, 1), (((1 << 30) + 1) * -3 + 100) * 20 + 100);
    }

    private static void act2() {
        WarpYard y = yard(0, 0, 1);
        acts(y, 0, act(0, 6, 0, 0), act(2, 2, 13, 1), act(0, 2, 1, 0), act(2, 2, 5, 20));
        y.start(0, 50, 40);
        due("step(0)", y.step(0), 0);
        due("count(1)", y.count(1), 3);
        due("event(1, 0): 13 modulo 3", y.event(1, 0), 1);
        due("event(1, 1)", y.event(1, 1), 51);
        due("number(1)", y.number(1), 40);
        due("event(1, 5): it came at once", y.event(1, 5), 0);
        due("event(2, 0): 5 modulo 3", y.event(2, 0), 2);
        due("event(2, 1)", y.event(2, 1), 70);
        due("number(2)", y.number(2), 81);
        due("event(2, 5): it is on the way", y.event(2, 5), 3);
        due("told(0, 6)", y.told(0, 6), 2);
        for (int c = -3; c <= 0; c++) {
            WarpYard z = one(50, 1, act(2, 0, 0, 1), act(2, 0, 0, c), act(0, 0, 0, 0));
            due("event(0, 6), c " + c, z.event(0, 6), 2);
            due("told(0, 6)", z.told(0, 6), 1);
            due("count(1)", z.count(1), 2);
            due("cell(0, 0)", z.cell(0, 0), 0);
        }
    }

    private static void act2Late() {
        WarpYard y = one(99990, 1, act(2, 0, 0, 10), act(2, 0, 0, 11), act(5, 0, 0, 0));
        due("event(0, 6)", y.event(0, 6), 6);
        due("count(1)", y.count(1), 2);
        due("event(1, 1)", y.event(1, 1), 100000);
        due("step(0)", y.step(0), 1);
        due("event(1, 6)", y.event(1, 6), 6);
        due("count(5)", y.count(5), 0);
        WarpYard z = one(100000, 1, act(2, 0, 0, 0));
        due("event(0, 6): not later comes first", z.event(0, 6), 2);
        due("told(0, 6)", z.told(0, 6), 0);
    }

    private static void act3() {
        WarpYard y = one(5, 1, act(0, 0, 0, 0), act(3, 0, 0, 0), act(5, 0, 0, 0));
        due("event(0, 6): no row", y.event(0, 6), 1);
        due("cell(0, 0)", y.cell(0, 0), 1);
        due("told(0, 5)", y.told(0, 5), 0);
        due("count(5)", y.count(5), 0);
        WarpYard z = yard(0);
        z.tear(0, 30);
        z.tear(0, -40);
        acts(z, 0, act(3, 1, 0, 0), act(3, 2, 0, 0), act(3, 3, 0, 0));
        z.start(0, 5, 1);
        z.step(0);
        due("event(0, 6): the row ends", z.event(0, 6), 4);
        due("told(0, 5)", z.told(0, 5), 2);
        due("cell(0, 1)", z.cell(0, 1), 30);
        due("cell(0, 2)", z.cell(0, 2), -40);
        due("cell(0, 3)", z.cell(0, 3), 0);
    }

    private static void act4() {
        WarpYard y = one(5, -1, act(4, 0, 1, 0), act(0, 0, 0, 0), act(0, 1, 0, 0), act(4, 1, 3, 0), act(0, 2, 5, 0));
        due("cell(0, 0): 0 is even", y.cell(0, 0), 0);
        due("cell(0, 1)", y.cell(0, 1), -1);
        due("cell(0, 2): -1 is odd", y.cell(0, 2), 4);
        WarpYard z = one(5, -2, act(0, 0, 0, 0), act(4, 0, 6, 0), act(0, 1, 1, 0), act(0, 1, 1, 0), act(0, 2, 7, 0));
        due("cell(0, 1): -2 is even, 6 modulo 4 are passed over", z.cell(0, 1), 0);
        due("cell(0, 2)", z.cell(0, 2), 5);
        WarpYard w = one(5, 3, act(4, 0, 4, 0), act(0, 1, 0, 0), act(4, 0, 3, 0), act(0, 2, 0, 0));
        due("cell(0, 1): 4 modulo 4 are passed over", w.cell(0, 1), 3);
        due("cell(0, 2): passed over beyond the end", w.cell(0, 2), 0);
        due("event(0, 6)", w.event(0, 6), 0);
        WarpYard v = one(5, 3, act(4, 0, 1, 0), act(6, 0, 0, 0), act(5, 0, 0, 0));
        due("event(0, 6): what would fail is passed over", v.event(0, 6), 0);
        due("count(5)", v.count(5), 1);
    }

    private static void act5() {
        WarpYard y = one(5, 3, act(5, 3, 0, 0), act(0, 3, 0, 0), act(5, 7, 0, 0));
        due("count(5)", y.count(5), 2);
        due("printed(0)", y.printed(0), 0);
        due("printed(1)", y.printed(1), 3);
    }

    private static void act6() {
        WarpYard y = one(5, -7, act(0, 0, 0, 0), act(0, 1, 9, 0), act(6, 4, 9, 0));
        due("cell(0, 0): -7 / 2", y.cell(0, 0), -3);
        WarpYard z = one(5, LEAST, act(0, 0, 0, 0), act(1, 3, 3, 0), act(6, 0, 3, 0));
        due("cell(0, 0): the least by 5", z.cell(0, 0), LEAST / 5);
        WarpYard w = yard(0);
        w.tear(0, LEAST);
        w.tear(0, -1);
        acts(w, 0, act(3, 0, 0, 0), act(3, 1, 0, 0), act(6, 0, 1, 0), act(5, 0, 0, 0), act(6, 1, 2, 0), act(5, 1, 0, 0));
        w.start(0, 5, 1);
        w.step(0);
        due("cell(0, 0): the least by -1", w.cell(0, 0), LEAST);
        due("event(0, 6): by 0", w.event(0, 6), 3);
        due("cell(0, 1)", w.cell(0, 1), -1);
        due("count(5)", w.count(5), 1);
    }

    private static void act7() {
        int[][] cases = {{8, 0}, {15, 7}, {24, 0}, {13, 5}, {-1, 7}, {-3, 5}, {-8, 0}, {MOST, 7}};
        for (int[] c : cases) {
            WarpYard y = one(5, c[0], act(0, 1, 0, 0), act(7, 6, 5, 0));
            due("cell(0, 2), of " + c[0], y.cell(0, 2), c[1]);
            due("event(0, 6)", y.event(0, 6), 0);
        }
        int[] below = {0, 7, 16, 23, -16, -9, LEAST};
        for (int x : below) {
            WarpYard y = one(5, x, act(0, 1, 0, 0), act(0, 2, 1, 0), act(7, 2, 1, 0), act(5, 1, 0, 0));
            due("event(0, 6), of " + x, y.event(0, 6), 5);
            due("cell(0, 2)", y.cell(0, 2), x + 1);
            due("count(5)", y.count(5), 0);
        }
    }

    private static void failing() {
        WarpYard y = one(5, 3, act(0, 0, 0, 0), act(5, 0, 0, 0), act(2, 0, 0, 4), act(6, 0, 1, 0), act(0, 0, 0, 0));
        due("cell(0, 0)", y.cell(0, 0), 3);
        due("event(0, 5)", y.event(0, 5), 2);
        due("event(0, 6)", y.event(0, 6), 3);
        due("count(1)", y.count(1), 2);
        due("printed(0)", y.printed(0), 3);
        due("told(0, 3)", y.told(0, 3), 1);
    }

    private static void run() {
        WarpYard y = yard(0, 1);
        y.start(1, 1, 0);
        for (int i = 0; i < 5; i++) y.start(0, 10 + 10 * i, 0);
        due("run(-1, 1)", y.run(-1, 1), BAD);
        due("run(4, 1)", y.run(4, 1), BAD);
        due("run(0, -1)", y.run(0, -1), BAD);
        due("run(0, 201)", y.run(0, 201), BAD);
        due("run(0, 0)", y.run(0, 0), 0);
        due("told(0, 1)", y.told(0, 1), 0);
        due("run(0, 2)", y.run(0, 2), 2);
        due("told(0, 1)", y.told(0, 1), 2);
        y.limit(30);
        due("run(0, 200), till the limit", y.run(0, 200), 1);
        y.limit(NONE);
        due("run(0, 200), till there is none", y.run(0, 200), 2);
        due("run(3, 200)", y.run(3, 200), 0);
    }

    private static void deliver() {
        WarpYard y = three();
        y.start(0, 10, 1);
        y.start(0, 20, 2);
        y.start(1, 50, 100);
        y.run(0, 2);            // events 4 (minute 15, x 1) and 5 (minute 25, x 3)
        due("deliver(-1)", y.deliver(-1), BAD);
        due("deliver(2)", y.deliver(2), BAD);
        y.step(1);
        due("cell(1, 0)", y.cell(1, 0), 100);
        due("deliver(1)", y.deliver(1), 1);
        due("way(0, 0)", y.way(0, 0), 4);
        due("count(2)", y.count(2), 1);
        due("cell(1, 0), gone back", y.cell(1, 0), 0);
        due("step(1)", y.step(1), 5);
        due("step(1)", y.step(1), 3);
        due("cell(1, 0)", y.cell(1, 0), 103);
        due("deliver(0)", y.deliver(0), 1);
        due("told(1, 2)", y.told(1, 2), 3);
        due("told(1, 4)", y.told(1, 4), 3);
        due("deliver(0)", y.deliver(0), BAD);
        due("run(1, 9)", y.run(1, 9), 3);
        due("step(2)", y.step(2), 0);
        int[][] prints = {{15, 1}, {25, 4}, {50, 104}};
        for (int i = 0; i < 3; i++) {
            due("out(" + i + ", 1)", y.out(i, 1), prints[i][0]);
            due("printed(" + i + ")", y.printed(i), prints[i][1]);
        }
        due("same()", y.same(), 1);
    }

    private static void shadowFirst() {
        WarpYard y = three();
        y.start(0, 20, 1);
        y.step(0);              // event 2 to part 1
        y.start(0, 10, 2);      // part 0 goes back: a shadow of event 2
        due("count(3)", y.count(3), 1);
        due("deliver(1)", y.deliver(1), 2);
        due("told(1, 7)", y.told(1, 7), 1);
        due("event(2, 5)", y.event(2, 5), 3);
        due("count(4)", y.count(4), 0);
        due("deliver(0)", y.deliver(0), 1);
        due("told(1, 7)", y.told(1, 7), 0);
        due("told(1, 4)", y.told(1, 4), 0);
        due("event(2, 5)", y.event(2, 5), 4);
        due("count(4)", y.count(4), 1);
        due("step(1)", y.step(1), NONE);
    }

    private static void shadowOfDone() {
        WarpYard y = three();
        y.start(0, 20, 1);
        y.start(0, 30, 2);
        y.run(0, 2);            // events 3 (minute 25, x 1) and 4 (minute 35, x 3)
        y.deliverAll();
        due("run(1, 9)", y.run(1, 9), 2);
        due("cell(1, 0)", y.cell(1, 0), 4);
        due("start(0, 25, 7)", y.start(0, 25, 7), 5);
        due("told(0, 2)", y.told(0, 2), 1);
        due("told(0, 6)", y.told(0, 6), 1);
        due("way(0, 0)", y.way(0, 0), 4);
        due("way(0, 1)", y.way(0, 1), 1);
        due("deliver(0)", y.deliver(0), 2);
        due("event(4, 5)", y.event(4, 5), 4);
        due("cell(1, 0)", y.cell(1, 0), 1);
        due("told(1, 2)", y.told(1, 2), 1);
        due("run(0, 9)", y.run(0, 9), 2);   // events 6 (minute 30, x 8) and 7 (minute 35, x 10)
        due("event(7, 4)", y.event(7, 4), 2);
        due("step(2)", y.step(2), 0);
        due("count(6): by keys event 2 is below event 6", y.count(6), 5);
        due("deliverAll()", y.deliverAll(), 2);
        due("run(1, 9)", y.run(1, 9), 2);
        due("cell(1, 0)", y.cell(1, 0), 19);
        due("count(5)", y.count(5), 3);
        due("printed(1)", y.printed(1), 9);
        due("same()", y.same(), 1);
    }

    private static void oneKeyTwice() {
        WarpYard y = twins();
        for (int what = 0; what <= 4; what++) due("event(4, " + what + ")", y.event(4, what), y.event(2, what));
        int[][] way = {{2, 0}, {2, 1}, {4, 0}};
        for (int i = 0; i < 3; i++) {
            due("way(" + i + ", 0)", y.way(i, 0), way[i][0]);
            due("way(" + i + ", 1)", y.way(i, 1), way[i][1]);
        }
        y.deliver(2);
        due("step(1)", y.step(1), 4);
        due("deliver(0)", y.deliver(0), 1);
        due("told(1, 2): the higher number goes back", y.told(1, 2), 1);
        due("step(1)", y.step(1), 2);
        due("step(1)", y.step(1), 4);
        due("cell(1, 0)", y.cell(1, 0), 7);
        y.step(2);
        due("floor(0): the shadow's", y.floor(0), 26);
        due("event(2, 5): not below the floor", y.event(2, 5), 1);
        due("event(4, 5): not below the floor", y.event(4, 5), 1);
        due("deliver(0)", y.deliver(0), 2);
        due("told(1, 2)", y.told(1, 2), 3);
        due("event(2, 5)", y.event(2, 5), 4);
        due("event(4, 5)", y.event(4, 5), 0);
        due("step(1)", y.step(1), 4);
        due("cell(1, 0)", y.cell(1, 0), 6);
        due("same()", y.same(), 1);

        WarpYard z = twins();
        z.deliver(0);
        z.step(1);
        z.deliver(1);
        due("told(1, 2): the lower number stays", z.told(1, 2), 0);
        due("step(1)", z.step(1), 4);
        z.deliver(0);
        due("told(1, 2)", z.told(1, 2), 2);
    }

    /** Shadows go from the event sent last on, and behind what is on the way. */
    private static void shadowOrder() {
        WarpYard y = yard(0, 1, 2);
        acts(y, 0, act(2, 0, 1, 9), act(2, 0, 0, 20), act(2, 0, 2, 3));
        y.start(2, 1, 0);
        y.start(0, 10, 0);
        y.start(0, 20, 0);
        y.run(0, 2);            // events 3 .. 5 and 6 .. 8, of them 4 and 7 to part 0 itself
        y.start(0, 5, 0);
        int[][] way = {{3, 0}, {5, 0}, {6, 0}, {8, 0}, {8, 1}, {6, 1}, {5, 1}, {3, 1}};
        due("count(2)", y.count(2), way.length);
        for (int i = 0; i < way.length; i++) {
            due("way(" + i + ", 0)", y.way(i, 0), way[i][0]);
            due("way(" + i + ", 1)", y.way(i, 1), way[i][1]);
        }
        due("count(3)", y.count(3), 6);
        due("count(4): with those to itself", y.count(4), 2);
        due("event(4, 5)", y.event(4, 5), 4);
        due("event(7, 5)", y.event(7, 5), 4);
        due("told(0, 4)", y.told(0, 4), 3);
    }

    /**
     * Part 1 sent two events to part 3, which lies on another line, and one to part 2, which did
     * it and sent to part 3, too: those shadows come behind, though part 2 is on part 1's line.
     */
    private static void turns() {
        WarpYard y = yard(1, 0, 0, 2);
        acts(y, 1, act(2, 0, 3, 9), act(2, 0, 2, 4), act(2, 0, 3, 8));
        acts(y, 2, act(2, 0, 3, 2));
        y.start(0, 1, 0);
        y.start(1, 10, 0);
        due("step(0)", y.step(0), 1);   // events 2, 3 (to part 2), 4
        due("step(0)", y.step(0), 3);   // event 5
        y.deliverAll();
        y.start(1, 5, 0);
        int[] way = {4, 2, 5};
        for (int i = 0; i < 3; i++) {
            due("way(" + i + ", 0)", y.way(i, 0), way[i]);
            due("way(" + i + ", 1)", y.way(i, 1), 1);
        }
        due("event(3, 5)", y.event(3, 5), 4);
        due("told(2, 2)", y.told(2, 2), 1);
        due("told(2, 4)", y.told(2, 4), 0);
        due("told(2, 6)", y.told(2, 6), 0);
    }

    private static void deliverAll() {
        WarpYard y = yard(0, 1, 2);
        acts(y, 0, act(2, 0, 1, 5));
        acts(y, 1, act(2, 0, 2, 5));
        y.start(0, 10, 0);
        y.start(1, 50, 0);
        due("deliverAll()", y.deliverAll(), 0);
        y.step(1);              // event 2 to part 2
        due("deliver(0)", y.deliver(0), 1);
        y.step(2);
        y.step(0);              // event 3 to part 1, at minute 15
        due("count(2)", y.count(2), 1);
        due("deliverAll(): event 3, and the shadow of event 2", y.deliverAll(), 2);
        due("count(2)", y.count(2), 0);
        due("event(2, 5)", y.event(2, 5), 4);
        due("told(2, 2)", y.told(2, 2), 1);
        due("deliverAll()", y.deliverAll(), 0);
    }

    private static void move() {
        WarpYard y = three();
        y.start(0, 20, 1);
        due("move(3, 0)", y.move(3, 0), BAD);
        due("move(-1, 0)", y.move(-1, 0), BAD);
        due("move(0, 4)", y.move(0, 4), BAD);
        due("move(0, -1)", y.move(0, -1), BAD);
        due("told(0, 0)", y.told(0, 0), 0);
        due("move(0, 3)", y.move(0, 3), 0);
        due("move(0, 3)", y.move(0, 3), 3);
        due("step(0)", y.step(0), NONE);
        due("step(3)", y.step(3), 1);       // event 2 to part 1
        due("move(1, 3)", y.move(1, 3), 1);
        due("count(2): what is on the way stays there", y.count(2), 1);
        y.start(0, 10, 2);
        due("count(2): the shadow came at once", y.count(2), 1);
        due("told(1, 7): and waits", y.told(1, 7), 1);
        due("deliver(0)", y.deliver(0), 1);
        due("count(4)", y.count(4), 1);
        due("run(3, 2)", y.run(3, 2), 2);   // by parts 0 and 1, one line now: nothing on the way
        due("count(2)", y.count(2), 0);
        due("told(1, 3)", y.told(1, 3), 1);
    }

    private static void limit() {
        WarpYard y = yard(0, 1);
        y.start(1, 10, 0);
        y.start(0, 10 + 7, 0);
        y.start(0, 10 + 8, 0);
        y.start(0, 10 + 1001, 0);
        due("limit(-2)", y.limit(-2), BAD);
        due("limit(1001)", y.limit(1001), BAD);
        due("limit(1000)", y.limit(1000), NONE);
        due("limit(0)", y.limit(0), 1000);
        due("step(0)", y.step(0), STATE);
        due("limit(7)", y.limit(7), 0);
        due("step(0): 7 above the floor", y.step(0), 1);
        due("step(0): 8 above it", y.step(0), STATE);
        due("limit(1000)", y.limit(1000), 7);
        due("step(0)", y.step(0), 2);
        due("step(0): 1001 above it", y.step(0), STATE);
        due("step(2): nothing to do", y.step(2), NONE);
        due("limit(NONE)", y.limit(NONE), 1000);
        due("step(0)", y.step(0), 3);
        due("limit(0)", y.limit(0), NONE);
        due("step(1): the floor itself", y.step(1), 0);
    }

    private static void keep() {
        WarpYard bad = yard(0);
        due("keep(0)", bad.keep(0), BAD);
        due("keep(10)", bad.keep(10), BAD);
        due("keep(-1)", bad.keep(-1), BAD);
        for (int k = 1; k <= 9; k++) {
            for (int early = 10; early < 130; early += 10) keepGoesBack(k, early);
        }
    }

    /** Twelve events at 10, 20 .. 120, then one at early + 5, and a floor that rises meanwhile. */
    private static void keepGoesBack(int k, int early) {
        WarpYard y = yard(0, 1);
        for (int i = 0; i < 8; i++) y.tear(0, 100 + i);
        acts(y, 0, act(1, 0, 0, 3), act(2, 0, 0, 20), act(5, 0, 0, 0), act(3, 1, 0, 0));
        due("keep(" + k + ")", y.keep(k), 1);
        y.start(1, 1, 0);
        y.start(1, early - 1, 0);
        int sum = 0, ahead = 0;
        for (int i = 1; i <= 12; i++) {
            y.start(0, 10 * i, 0);
            if (i == 6) y.run(0, 3);
        }
        y.run(1, 1);
        y.keep(k);
        y.run(0, 60);
        y.start(0, early + 5, 0);
        for (int minute = 10; minute <= early; minute += 10) {
            for (int times = 0; times < times(minute); times++) {
                if (minute < early) ahead = 3 * ahead + minute;
                sum = 3 * sum + minute;
            }
        }
        due("cell(0, 0), keep " + k + ", back to " + early, y.cell(0, 0), sum);
        due("settled(0, 0), keep " + k + ", back to " + early, y.settled(0, 0), ahead);
        due("same()", y.same(), 1);
    }

    /** Each start sends one event 20 minutes on, which does the same. */
    private static int times(int minute) {
        return (minute + 10) / 20;
    }

    private static void floor() {
        WarpYard y = three();
        due("floor(-1)", y.floor(-1), BAD);
        due("floor(4)", y.floor(4), BAD);
        int[] start = {1, -1, -1, 0};
        for (int what = 0; what < 4; what++) due("floor(" + what + ")", y.floor(what), start[what]);
        y.start(0, 20, 1);
        y.start(0, 30, 1);
        y.step(2);
        due("floor(0)", y.floor(0), 20);
        due("floor(3)", y.floor(3), 1);
        y.run(0, 2);            // events 3 (minute 25) and 4 (minute 35)
        int[] sent = {25, 20, 0, 0};
        for (int what = 0; what < 4; what++) due("floor(" + what + "), on the way", y.floor(what), sent[what]);
        y.deliver(0);
        due("floor(0), there", y.floor(0), 25);
        y.step(1);
        int[] second = {35, 30, 0, 1};
        for (int what = 0; what < 4; what++) due("floor(" + what + ")", y.floor(what), second[what]);
        y.deliver(0);
        y.step(1);
        for (int what = 0; what < 4; what++) due("floor(" + what + ")", y.floor(what), -9);
        due("floor(4)", y.floor(4), BAD);

        // Nothing below the shadow of event 4 is open: events 1 and 5 are done again.
        WarpYard z = three();
        z.start(0, 30, 1);
        z.step(0);              // event 2 (minute 35)
        z.deliver(0);
        z.step(1);
        z.start(0, 20, 1);
        z.run(0, 2);            // events 4 (minute 25) and 5 (minute 35), and event 2's shadow ahead
        z.step(2);
        z.deliver(1);
        z.step(1);
        due("floor(0)", z.floor(0), 35);
        due("floor(1)", z.floor(1), 30);
        due("floor(3): the shadow's event", z.floor(3), 0);
        z.deliver(0);
        due("floor(3): the second event", z.floor(3), 1);
    }

    private static void cell() {
        WarpYard y = one(7, 4, act(0, 0, 0, 0), act(0, 1, 1, 0), act(0, 2, 2, 0), act(0, 3, 3, 0));
        for (int c = 0; c < 4; c++) due("cell(0, " + c + ")", y.cell(0, c), 4 + c);
        due("cell(0, 4)", y.cell(0, 4), 0);
        due("cell(0, -1)", y.cell(0, -1), 0);
        due("cell(1, 0)", y.cell(1, 0), 0);
        due("cell(-1, 0)", y.cell(-1, 0), 0);
        due("cell(MOST, LEAST)", y.cell(MOST, LEAST), 0);
    }

    private static void settled() {
        WarpYard y = yard(0, 1);
        acts(y, 0, act(0, 0, 0, 0), act(0, 3, 1, 0));
        y.start(1, 1, 0);
        y.start(1, 15, 0);
        y.start(0, 10, 1);
        y.start(0, 20, 10);
        y.start(0, 30, 100);
        y.run(0, 3);
        due("cell(0, 0)", y.cell(0, 0), 111);
        due("settled(0, 0)", y.settled(0, 0), 0);
        y.step(1);
        due("settled(0, 0)", y.settled(0, 0), 1);
        due("settled(0, 3)", y.settled(0, 3), 2);
        due("cell(0, 0)", y.cell(0, 0), 111);
        y.step(1);
        due("settled(0, 0), no floor", y.settled(0, 0), 111);
        due("settled(0, 3)", y.settled(0, 3), 114);
        due("settled(0, 4)", y.settled(0, 4), 0);
        due("settled(0, -1)", y.settled(0, -1), 0);
        due("settled(2, 0)", y.settled(2, 0), 0);
        due("settled(-1, 0)", y.settled(-1, 0), 0);
    }

    private static void told() {
        WarpYard y = yard(2, 1);
        y.tear(0, 5);
        y.tear(0, 6);
        acts(y, 0, act(2, 0, 0, 9), act(2, 0, 1, 9), act(3, 0, 0, 0));
        y.start(1, 1, 0);
        y.start(0, 20, 0);
        due("told(2, 0)", y.told(2, 0), BAD);
        due("told(-1, 0)", y.told(-1, 0), BAD);
        due("told(0, -1)", y.told(0, -1), BAD);
        due("told(0, 8)", y.told(0, 8), BAD);
        int[] first = {2, 0, 0, 0, 1, 0, 0, 0};
        for (int what = 0; what < 8; what++) due("told(0, " + what + ")", y.told(0, what), first[what]);
        y.run(2, 2);            // events 2 and 3 by event 1, events 4 and 5 by event 2
        int[] behind = {2, 2, 0, 2, 1, 2, 4, 0};
        for (int what = 0; what < 8; what++) due("told(0, " + what + "), behind two", y.told(0, what), behind[what]);
        y.start(0, 10, 0);      // both are taken back, events 2 and 4 met their shadows
        int[] back = {2, 2, 2, 0, 2, 0, 0, 0};
        for (int what = 0; what < 8; what++) due("told(0, " + what + "), gone back", y.told(0, what), back[what]);
        y.deliver(3);
        y.deliver(2);
        due("told(1, 7)", y.told(1, 7), 2);
        due("told(0, 7)", y.told(0, 7), 0);
        y.step(2);
        int[] again = {2, 3, 2, 1, 2, 1, 2, 0};
        for (int what = 0; what < 8; what++) due("told(0, " + what + "), done again", y.told(0, what), again[what]);
    }

    private static void event() {
        WarpYard y = three();
        y.start(0, 20, 1);
        y.step(0);              // event 2
        due("event(-1, 0)", y.event(-1, 0), BAD);
        due("event(3, 0)", y.event(3, 0), BAD);
        due("event(2, -1)", y.event(2, -1), BAD);
        due("event(2, 7)", y.event(2, 7), BAD);
        int[] sent = {1, 25, 20, 0, 0, 3, 0};
        for (int what = 0; what < 7; what++) due("event(2, " + what + ")", y.event(2, what), sent[what]);
        due("event(1, 5): done", y.event(1, 5), 1);
        y.deliver(0);
        due("event(2, 5): there", y.event(2, 5), 0);
        y.step(2);
        due("event(1, 5): settled", y.event(1, 5), 2);
        due("event(2, 5): there", y.event(2, 5), 0);
        y.step(1);
        due("event(2, 5): settled", y.event(2, 5), 2);

        WarpYard z = yard(0, 1);
        acts(z, 0, act(6, 0, 0, 0));
        z.start(1, 1, 0);
        z.start(0, 20, 0);
        due("event(1, 6): not done", z.event(1, 6), 0);
        z.step(0);
        due("event(1, 6): failed", z.event(1, 6), 3);
        due("event(1, 5): done", z.event(1, 5), 1);
        z.start(0, 10, 0);
        due("event(1, 6): taken back", z.event(1, 6), 0);
        due("event(1, 5): taken back", z.event(1, 5), 0);

        // Event 2 is there, done, and gone: what it was is still told.
        WarpYard w = three();
        w.start(0, 20, 1);
        w.step(0);
        w.deliver(0);
        w.step(1);
        w.start(0, 10, 1);
        due("event(2, 5): done, its shadow on the way", w.event(2, 5), 1);
        w.deliver(0);
        int[] gone = {1, 25, 20, 0, 0, 4, 0};
        for (int what = 0; what < 7; what++) due("event(2, " + what + "), gone", w.event(2, what), gone[what]);
    }

    private static void number() {
        WarpYard y = three();
        y.start(0, 20, LEAST);
        y.step(0);
        due("number(0)", y.number(0), 0);
        due("number(1)", y.number(1), LEAST);
        due("number(2)", y.number(2), LEAST);
        due("number(3)", y.number(3), 0);
        due("number(-1)", y.number(-1), 0);
        y.start(0, 10, 77);
        y.deliverAll();
        due("event(2, 5)", y.event(2, 5), 4);
        due("number(2), gone", y.number(2), LEAST);
        due("number(3)", y.number(3), 77);
    }

    private static void way() {
        WarpYard y = three();
        due("way(0, 0)", y.way(0, 0), NONE);
        due("way(0, 2)", y.way(0, 2), BAD);
        y.start(0, 20, 1);
        y.step(0);
        y.start(0, 10, 1);
        due("way(0, 0)", y.way(0, 0), 2);
        due("way(0, 1)", y.way(0, 1), 0);
        due("way(1, 0)", y.way(1, 0), 2);
        due("way(1, 1)", y.way(1, 1), 1);
        due("way(2, 0)", y.way(2, 0), NONE);
        due("way(-1, 1)", y.way(-1, 1), NONE);
        due("way(0, -1)", y.way(0, -1), BAD);
        due("way(1, 2)", y.way(1, 2), BAD);
    }

    private static void count() {
        WarpYard y = three();
        due("count(-1)", y.count(-1), BAD);
        due("count(9)", y.count(9), BAD);
        y.start(0, 20, 1);
        y.start(0, 30, 2);
        y.run(0, 2);            // events 3 and 4
        y.start(0, 25, 3);      // a shadow of event 4
        int[] first = {3, 6, 3, 1, 0, 0, 0, 0, 4};
        for (int what = 0; what < 9; what++) due("count(" + what + ")", y.count(what), first[what]);
        y.deliverAll();
        y.step(2);
        y.step(1);
        int[] second = {3, 6, 0, 1, 1, 0, 2, 0, 4};
        for (int what = 0; what < 9; what++) due("count(" + what + "), came", y.count(what), second[what]);
        y.run(0, 2);
        y.deliverAll();
        y.run(1, 2);
        int[] last = {3, 8, 0, 1, 1, 3, 7, 0, 4};
        for (int what = 0; what < 9; what++) due("count(" + what + "), at the end", y.count(what), last[what]);

        WarpYard z = yard(0, 1);
        acts(z, 0, act(5, 0, 0, 0), act(5, 0, 0, 0), act(6, 0, 0, 0));
        z.start(1, 15, 0);
        z.start(0, 20, 0);
        z.step(0);
        due("count(5)", z.count(5), 0);
        due("count(7)", z.count(7), 0);
        z.step(1);
        due("count(5)", z.count(5), 2);
        due("count(6)", z.count(6), 2);
        due("count(7)", z.count(7), 1);
    }

    private static void out() {
        WarpYard y = yard(0, 1, 2);
        for (int p = 0; p < 2; p++) acts(y, p, act(5, 1, 0, 0), act(0, 0, 0, 0), act(5, 0, 0, 0));
        due("out(0, 0)", y.out(0, 0), NONE);
        due("out(0, 2)", y.out(0, 2), BAD);
        y.start(2, 1, 0);
        y.start(0, 30, 3);
        y.start(1, 20, 2);
        y.start(1, 30, 1);
        y.run(0, 1);
        y.run(1, 2);
        due("out(0, 0)", y.out(0, 0), NONE);
        y.step(2);
        int[][] due = {{1, 20, 0}, {1, 20, 2}, {0, 30, 0}, {0, 30, 3}, {1, 30, 0}, {1, 30, 3}};
        for (int i = 0; i < due.length; i++) {
            due("out(" + i + ", 0)", y.out(i, 0), due[i][0]);
            due("out(" + i + ", 1)", y.out(i, 1), due[i][1]);
            due("printed(" + i + ")", y.printed(i), due[i][2]);
        }
        due("out(6, 0)", y.out(6, 0), NONE);
        due("out(-1, 1)", y.out(-1, 1), NONE);
        due("out(0, -1)", y.out(0, -1), BAD);
        due("out(6, 2)", y.out(6, 2), BAD);
    }

    private static void printed() {
        WarpYard y = yard(0, 1);
        acts(y, 0, act(0, 0, 0, 0), act(5, 0, 0, 0));
        due("printed(0)", y.printed(0), 0);
        y.start(1, 1, 0);
        y.start(1, 25, 0);
        y.start(0, 20, 5);
        y.start(0, 30, 6);
        y.run(0, 2);
        due("printed(0), not settled", y.printed(0), 0);
        y.start(0, 10, 4);
        y.step(1);
        due("count(5)", y.count(5), 0);
        y.run(0, 3);
        due("count(5)", y.count(5), 2);
        due("printed(0)", y.printed(0), 4);
        due("printed(1): done again", y.printed(1), 9);
        due("printed(2), not settled", y.printed(2), 0);
        due("printed(-1)", y.printed(-1), 0);
        y.step(1);
        due("printed(2)", y.printed(2), 15);
        due("printed(3)", y.printed(3), 0);
        due("printed(MOST)", y.printed(MOST), 0);
    }

    private static void failed() {
        WarpYard y = yard(0, 1, 2);
        acts(y, 0, act(3, 0, 0, 0));
        acts(y, 1, act(7, 0, 0, 0));
        y.start(2, 1, 0);
        y.start(2, 25, 0);
        y.start(0, 30, 0);
        y.start(1, 20, 0);
        y.step(0);
        y.step(1);
        due("failed(0): none is settled", y.failed(0), NONE);
        due("failed(-1)", y.failed(-1), BAD);
        due("failed(3)", y.failed(3), BAD);
        y.step(2);
        y.step(2);
        due("failed(0)", y.failed(0), 3);
        due("failed(1)", y.failed(1), 5);
        due("failed(2)", y.failed(2), 1);
        due("failed(3)", y.failed(3), BAD);
        due("count(7)", y.count(7), 2);

        WarpYard z = yard(0);
        acts(z, 0, act(4, 0, 1, 0), act(6, 0, 1, 0), act(0, 0, 0, 0));
        z.start(0, 10, 1);
        z.start(0, 20, 1);
        z.run(0, 2);
        due("failed(0): the second one", z.failed(0), 1);
        due("failed(1)", z.failed(1), 3);
        due("failed(2)", z.failed(2), 0);
    }

    /** Whether it would see a difference, SameTest looks at: no run of calls makes one. */
    private static void same() {
        WarpYard y = three();
        due("same(), nothing done", y.same(), 1);
        y.start(0, 20, 1);
        y.start(0, 30, 2);
        y.run(0, 2);
        due("same(), ahead of the floor", y.same(), 1);
        y.deliver(1);
        y.step(1);
        y.start(0, 25, 3);
        due("same(), with a shadow on the way", y.same(), 1);
        y.run(0, 5);
        y.step(2);
        due("same()", y.same(), 1);
        y.deliverAll();
        due("same()", y.same(), 1);
        y.run(1, 9);
        due("same(), all settled", y.same(), 1);
        due("count(5)", y.count(5), 3);
        due("same(), asked again", y.same(), 1);
        y.start(1, 90, 3);
        due("same(), with a start behind", y.same(), 1);
    }
}
