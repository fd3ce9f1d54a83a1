import java.io.IOException;
import java.util.function.ToIntFunction;

/** The edges that the sections 'Promise 1' to 'Promise 24' of the document name: a test for each. */
public final class PromiseEdgesTest extends Edges {
    public static void main(String[] args) throws IOException {
        runAll(PromiseEdgesTest.class, 24);
    }

    /** Parts, events of all kinds, two events and a shadow on the way, a limit that refuses line 0. */
    private static WarpYard anyWorld() {
        WarpYard y = twins();
        y.start(0, 40, 0);
        y.limit(3);
        return y;
    }

    /** A call that is refused, and that nothing told changes by it. */
    private static void refused(int want, String call, ToIntFunction<WarpYard> on) {
        WarpYard y = anyWorld();
        String before = all(y);
        due(call, on.applyAsInt(y), want);
        due("what is told behind " + call, all(y), before);
    }

    // ---- promise 1: a new object

    @Says(promise = 1, value = "No PARTS")
    static void newHasNoParts() {
        WarpYard y = new WarpYard();
        due("count(0)", y.count(0), 0);
        due("told(0, 0)", y.told(0, 0), BAD);
        due("tear(0, 1)", y.tear(0, 1), BAD);
        due("rule(0, 0, 0, 0, 0)", y.rule(0, 0, 0, 0, 0), BAD);
        due("start(0, 1, 1)", y.start(0, 1, 1), BAD);
        due("move(0, 0)", y.move(0, 0), BAD);
        due("cell(0, 0)", y.cell(0, 0), 0);
        due("settled(0, 0)", y.settled(0, 0), 0);
    }

    @Says(promise = 1, value = "no EVENTS")
    static void newHasNoEvents() {
        WarpYard y = new WarpYard();
        row("count(_)", y::count, 0, 0, 0, 0, 0, 0, 0, 0, 0);
        row("floor(_)", y::floor, -9, -9, -9, -9);
        row("event(0, _)", what -> y.event(0, what), BAD, BAD, BAD, BAD, BAD, BAD, BAD);
        row("step(_)", y::step, NONE, NONE, NONE, NONE);
        row("failed(_)", y::failed, NONE, NONE, NONE);
        due("number(0)", y.number(0), 0);
        due("run(0, 200)", y.run(0, 200), 0);
        due("way(0, 0)", y.way(0, 0), NONE);
        due("out(0, 0)", y.out(0, 0), NONE);
        due("same()", y.same(), 1);
    }

    @Says(promise = 1, value = "no limit")
    static void newHasNoLimit() {
        WarpYard y = yard(0, 1);
        y.start(1, 0, 0);
        y.start(0, 100000, 0);
        due("step(0), 100000 above the floor", y.step(0), 1);
        due("limit(0)", y.limit(0), NONE);
    }

    @Says(promise = 1, value = "No PARTS")
    static void newIsApartFromOthers() {
        WarpYard other = three();
        other.start(0, 10, 1);
        other.limit(5);
        WarpYard y = new WarpYard();
        due("count(0)", y.count(0), 0);
        due("count(1)", y.count(1), 0);
        due("limit(0)", y.limit(0), NONE);
        due("limit(0) of the other", other.limit(0), 5);
    }

    // ---- promise 2: part

    @Says(promise = 2, value = "BAD")
    static void partOnNoLine() {
        WarpYard y = new WarpYard();
        each(BAD, "part(_)", y::part, LEAST, -2, -1, 4, 5, MOST);
        due("count(0)", y.count(0), 0);
        row("part(_)", y::part, 0, 1, 2, 3);
        row("told(_, 0)", p -> y.told(p, 0), 0, 1, 2, 3);
    }

    @Says(promise = 2, value = "STATE: there are EVENTS")
    static void partBehindTheFirstStart() {
        WarpYard y = yard(0);
        y.start(1, 5, 0);
        y.start(0, 100001, 0);
        due("part(1), behind starts that were refused", y.part(1), 1);
        y.start(0, 5, 0);
        each(STATE, "part(_), behind a start", y::part, 0, 3);
        y.step(0);
        due("part(0), all is settled", y.part(0), STATE);
        due("count(0)", y.count(0), 2);
    }

    @Says(promise = 2, value = "FULL")
    static void partThirteenth() {
        WarpYard y = new WarpYard();
        row("part(0), the one with number _", i -> y.part(0), 0, 1, 2, 3, 4, 5, 6, 7, 8, 9, 10, 11);
        each(FULL, "part(_), the 13th", y::part, 0, 3);
        due("count(0)", y.count(0), 12);
        due("told(12, 0)", y.told(12, 0), BAD);
    }

    @Says(promise = 2, value = "BAD; STATE: there are EVENTS; FULL.")
    static void partRefusedInThisOrder() {
        WarpYard y = twelve();
        each(BAD, "part(_), the 13th", y::part, -1, 4);
        y.start(0, 5, 0);
        due("part(0), the 13th, behind a start", y.part(0), STATE);
        each(BAD, "part(_), behind a start", y::part, -1, 4);
    }

    @Says(promise = 2, value = "BAD; STATE: there are EVENTS; FULL.")
    static void partRefusedChangesNothing() {
        refused(BAD, "part(4)", y -> y.part(4));
        refused(STATE, "part(0)", y -> y.part(0));
    }

    // ---- promise 3: tear

    @Says(promise = 3, value = "BAD")
    static void tearOfNoPart() {
        WarpYard y = yard(0, 0);
        each(BAD, "tear(_, 7)", p -> y.tear(p, 7), LEAST, -1, 2, 11, MOST);
        each(1, "tear(_, 7)", p -> y.tear(p, 7), 0, 1);
        WarpYard z = twelve();
        due("tear(11, 7)", z.tear(11, 7), 1);
        due("tear(12, 7)", z.tear(12, 7), BAD);
    }

    @Says(promise = 3, value = "A number more for a PART's ROW")
    static void tearAnyNumber() {
        int[] numbers = {LEAST, -1, 0, 1, MOST};
        for (int n : numbers) {
            WarpYard y = yard(0);
            acts(y, 0, act(3, 0, 0, 0));
            due("tear(0, " + n + ")", y.tear(0, n), 1);
            y.start(0, 1, 0);
            y.step(0);
            due("cell(0, 0)", y.cell(0, 0), n);
        }
    }

    @Says(promise = 3, value = "STATE: there are EVENTS")
    static void tearBehindTheFirstStart() {
        WarpYard y = yard(0, 0);
        acts(y, 1, act(3, 0, 0, 0));
        due("tear(1, 7), ahead of it", y.tear(1, 7), 1);
        y.start(1, 5, 0);
        each(STATE, "tear(_, 8)", p -> y.tear(p, 8), 0, 1);
        y.step(0);
        y.start(1, 6, 0);
        y.step(0);
        due("event(1, 6): the row has one number still", y.event(1, 6), 4);
    }

    @Says(promise = 3, value = "FULL")
    static void tearNinth() {
        WarpYard y = yard(0, 0);
        row("tear(1, ..), with _ ahead", i -> y.tear(1, i), 1, 2, 3, 4, 5, 6, 7, 8);
        each(FULL, "tear(1, _), the 9th", n -> y.tear(1, n), 0, MOST, LEAST);
        due("tear(0, 7): each part has its own row", y.tear(0, 7), 1);
    }

    @Says(promise = 3, value = "BAD; STATE: there are EVENTS; FULL.")
    static void tearRefusedInThisOrder() {
        WarpYard y = yard(0);
        for (int i = 0; i < 8; i++) y.tear(0, i);
        due("tear(1, 7)", y.tear(1, 7), BAD);
        y.start(0, 5, 0);
        due("tear(0, 7), the 9th, behind a start", y.tear(0, 7), STATE);
        each(BAD, "tear(_, 7), behind a start", p -> y.tear(p, 7), -1, 1);
    }

    @Says(promise = 3, value = "BAD; STATE: there are EVENTS; FULL.")
    static void tearRefusedChangesNothing() {
        refused(BAD, "tear(3, 1)", y -> y.tear(3, 1));
        refused(STATE, "tear(0, 1)", y -> y.tear(0, 1));
    }

    // ---- promise 4: rule

    @Says(promise = 4, value = "BAD")
    static void ruleOfNoPart() {
        WarpYard y = yard(0, 0);
        each(BAD, "rule(_, 5, 0, 0, 0)", p -> y.rule(p, 5, 0, 0, 0), LEAST, -1, 2, 11, MOST);
        each(1, "rule(_, 5, 0, 0, 0)", p -> y.rule(p, 5, 0, 0, 0), 0, 1);
        WarpYard z = twelve();
        due("rule(11, 5, 0, 0, 0)", z.rule(11, 5, 0, 0, 0), 1);
        due("rule(12, 5, 0, 0, 0)", z.rule(12, 5, 0, 0, 0), BAD);
    }

    @Says(promise = 4, value = "An ACT (0 .. 7)")
    static void ruleOfNoAct() {
        WarpYard y = yard(0);
        each(BAD, "rule(0, _, 0, 0, 0)", act -> y.rule(0, act, 0, 0, 0), LEAST, -1, 8, MOST);
        row("rule(0, _, 0, 0, 0)", act -> y.rule(0, act, 0, 0, 0), 1, 2, 3, 4, 5, 6, 7, 8);
    }

    @Says(promise = 4, value = "a and b 0 .. 15")
    static void ruleWithWrongA() {
        WarpYard y = yard(0);
        each(BAD, "rule(0, 5, _, 0, 0)", a -> y.rule(0, 5, a, 0, 0), LEAST, -1, 16, MOST);
        due("rule(0, 5, 0, 0, 0)", y.rule(0, 5, 0, 0, 0), 1);
        due("rule(0, 5, 15, 0, 0)", y.rule(0, 5, 15, 0, 0), 2);
    }

    @Says(promise = 4, value = "a and b 0 .. 15")
    static void ruleWithWrongB() {
        WarpYard y = yard(0);
        each(BAD, "rule(0, 5, 0, _, 0)", b -> y.rule(0, 5, 0, b, 0), LEAST, -1, 16, MOST);
        due("rule(0, 5, 0, 0, 0)", y.rule(0, 5, 0, 0, 0), 1);
        due("rule(0, 5, 0, 15, 0)", y.rule(0, 5, 0, 15, 0), 2);
    }

    @Says(promise = 4, value = "c -3 .. 20")
    static void ruleWithWrongC() {
        WarpYard y = yard(0);
        each(BAD, "rule(0, 5, 0, 0, _)", c -> y.rule(0, 5, 0, 0, c), LEAST, -4, 21, MOST);
        due("rule(0, 5, 0, 0, -3)", y.rule(0, 5, 0, 0, -3), 1);
        due("rule(0, 5, 0, 0, 20)", y.rule(0, 5, 0, 0, 20), 2);
    }

    @Says(promise = 4, value = "STATE: there are EVENTS")
    static void ruleBehindTheFirstStart() {
        WarpYard y = yard(0, 0);
        due("rule(0, 5, 0, 0, 0), ahead of it", y.rule(0, 5, 0, 0, 0), 1);
        y.start(0, 5, 0);
        each(STATE, "rule(_, 5, 0, 0, 0)", p -> y.rule(p, 5, 0, 0, 0), 0, 1);
        y.step(0);
        due("count(5): it has one act still", y.count(5), 1);
    }

    @Says(promise = 4, value = "FULL")
    static void ruleNinth() {
        WarpYard y = yard(0, 0);
        row("rule(1, 5, ..), with _ ahead", i -> y.rule(1, 5, i, 0, 0), 1, 2, 3, 4, 5, 6, 7, 8);
        each(FULL, "rule(1, _, 0, 0, 0), the 9th", act -> y.rule(1, act, 0, 0, 0), 0, 7);
        due("rule(0, 5, 0, 0, 0): each part has its own rule", y.rule(0, 5, 0, 0, 0), 1);
        y.start(1, 1, 0);
        y.step(0);
        due("count(5): all eight are done", y.count(5), 8);
    }

    @Says(promise = 4, value = "BAD; STATE: there are EVENTS; FULL.")
    static void ruleRefusedInThisOrder() {
        WarpYard y = yard(0);
        for (int i = 0; i < 8; i++) y.rule(0, 5, 0, 0, 0);
        due("rule(0, 8, 0, 0, 0), the 9th", y.rule(0, 8, 0, 0, 0), BAD);
        y.start(0, 5, 0);
        due("rule(0, 5, 0, 0, 0), the 9th, behind a start", y.rule(0, 5, 0, 0, 0), STATE);
        due("rule(1, 5, 0, 0, 0)", y.rule(1, 5, 0, 0, 0), BAD);
        due("rule(0, 8, 0, 0, 0)", y.rule(0, 8, 0, 0, 0), BAD);
        due("rule(0, 5, 16, 0, 0)", y.rule(0, 5, 16, 0, 0), BAD);
        due("rule(0, 5, 0, 16, 0)", y.rule(0, 5, 0, 16, 0), BAD);
        due("rule(0, 5, 0, 0, 21)", y.rule(0, 5, 0, 0, 21), BAD);
    }

    @Says(promise = 4, value = "BAD; STATE: there are EVENTS; FULL.")
    static void ruleRefusedChangesNothing() {
        refused(BAD, "rule(0, 8, 0, 0, 0)", y -> y.rule(0, 8, 0, 0, 0));
        refused(STATE, "rule(0, 0, 0, 0, 0)", y -> y.rule(0, 0, 0, 0, 0));
    }

    // ---- promise 5: start

    @Says(promise = 5, value = "BAD")
    static void startAtNoPart() {
        WarpYard y = yard(0, 0);
        each(BAD, "start(_, 1, 0)", p -> y.start(p, 1, 0), LEAST, -1, 2, 11, MOST);
        due("count(1)", y.count(1), 0);
        due("start(1, 1, 0)", y.start(1, 1, 0), 0);
        due("start(0, 2, 0)", y.start(0, 2, 0), 1);
        WarpYard z = twelve();
        due("start(12, 1, 0)", z.start(12, 1, 0), BAD);
        due("start(11, 1, 0)", z.start(11, 1, 0), 0);
        due("event(0, 0)", z.event(0, 0), 11);
    }

    @Says(promise = 5, value = "MINUTES 0 .. 100000")
    static void startAtNoMinute() {
        WarpYard y = yard(0);
        each(BAD, "start(0, _, 0)", minute -> y.start(0, minute, 0), LEAST, -1, 100001, MOST);
        due("count(1)", y.count(1), 0);
        due("start(0, 0, 0)", y.start(0, 0, 0), 0);
        due("start(0, 100000, 0)", y.start(0, 100000, 0), 1);
        due("event(0, 1)", y.event(0, 1), 0);
        due("event(1, 1)", y.event(1, 1), 100000);
        due("start(0, 100001, 0), with a floor", y.start(0, 100001, 0), BAD);
    }

    @Says(promise = 5, value = "STATE: the MINUTE is not above that of THE FLOOR")
    static void startAtTheFloorOfOneThere() {
        WarpYard y = yard(0, 1);
        y.start(0, 10, 0);
        each(STATE, "start(1, _, 0)", minute -> y.start(1, minute, 0), 0, 9, 10);
        due("start(1, 11, 0)", y.start(1, 11, 0), 1);
        due("start(0, 10, 0)", y.start(0, 10, 0), STATE);
        due("start(0, 11, 0)", y.start(0, 11, 0), 2);
    }

    @Says(promise = 5, value = "STATE: the MINUTE is not above that of THE FLOOR")
    static void startAtTheFloorOfOneOnTheWay() {
        WarpYard y = three();
        y.start(0, 10, 0);
        y.step(0);
        y.step(2);
        each(STATE, "start(2, _, 0)", minute -> y.start(2, minute, 0), 10, 14, 15);
        due("start(2, 16, 0)", y.start(2, 16, 0), 3);
    }

    @Says(promise = 5, value = "STATE: the MINUTE is not above that of THE FLOOR")
    static void startAtTheFloorOfAShadow() {
        WarpYard y = shadowAlone();
        each(STATE, "start(2, _, 0)", minute -> y.start(2, minute, 0), 21, 25, 26);
        due("start(2, 27, 0)", y.start(2, 27, 0), 5);
    }

    @Says(promise = 5, value = "or, if there is none, not above those of all EVENTS that are DONE")
    static void startWhereAllIsDone() {
        WarpYard y = yard(0, 1);
        y.start(0, 20, 0);
        y.start(1, 30, 0);
        y.step(1);
        y.step(0);
        for (int part = 0; part < 2; part++) {
            int p = part;
            each(STATE, "start(" + p + ", _, 0)", minute -> y.start(p, minute, 0), 0, 20, 21, 29, 30);
        }
        due("start(0, 31, 0)", y.start(0, 31, 0), 2);
    }

    @Says(promise = 5, value = "or, if there is none, not above those of all EVENTS that are DONE")
    static void startWhereAllIsDoneAtTheLastMinute() {
        WarpYard y = yard(0);
        y.start(0, 100000, 0);
        y.step(0);
        due("start(0, 100000, 0)", y.start(0, 100000, 0), STATE);
    }

    @Says(promise = 5, value = "or, if there is none, not above those of all EVENTS that are DONE")
    static void startBelowOneThatIsGone() {
        WarpYard y = shadowAlone();
        y.deliver(0);
        due("event(2, 5), at minute 26", y.event(2, 5), 4);
        due("floor(0)", y.floor(0), -9);
        due("start(2, 21, 0)", y.start(2, 21, 0), STATE);
        due("start(2, 22, 0)", y.start(2, 22, 0), 5);
    }

    @Says(promise = 5, value = "or, if there is none, not above those of all EVENTS that are DONE")
    static void startWhereNothingIsDone() {
        WarpYard y = yard(0);
        due("start(0, 0, 0)", y.start(0, 0, 0), 0);
    }

    @Says(promise = 5, value = "FULL: there are 400")
    static void startFourHundredAndFirst() {
        WarpYard y = breeder(1);
        y.run(0, 200);
        due("count(1)", y.count(1), 393);
        for (int e = 393; e < 400; e++) due("start(0, 90000, 0)", y.start(0, 90000, 0), e);
        due("start(0, 90000, 0), the 401st", y.start(0, 90000, 0), FULL);
        due("count(1)", y.count(1), 400);
        due("count(8)", y.count(8), 8);
        due("event(399, 1)", y.event(399, 1), 90000);
    }

    @Says(promise = 5, value = "FULL: there are 400")
    static void startFourHundredAndFirstByStartsAlone() {
        WarpYard y = yard(0);
        for (int e = 0; e < 400; e++) due("start", y.start(0, e, 0), e);
        due("start(0, 400, 0)", y.start(0, 400, 0), FULL);
        due("count(8)", y.count(8), 400);
    }

    @Says(promise = 5, value = "BAD; STATE: the MINUTE is not above that of THE FLOOR, or, if there is none, "
            + "not above those of all EVENTS that are DONE; FULL: there are 400.")
    static void startRefusedInThisOrder() {
        WarpYard y = yard(0);
        for (int e = 0; e < 400; e++) y.start(0, e + 5, 0);
        due("start(0, 5, 0), full and at the floor", y.start(0, 5, 0), STATE);
        due("start(1, 5, 0)", y.start(1, 5, 0), BAD);
        due("start(0, -1, 0)", y.start(0, -1, 0), BAD);
        due("start(0, 100001, 0)", y.start(0, 100001, 0), BAD);
        due("start(0, 6, 0)", y.start(0, 6, 0), FULL);
    }

    @Says(promise = 5, value = "how many starts there were before it")
    static void startRefusedIsNone() {
        WarpYard y = yard(0);
        y.start(0, 10, 0);
        y.start(0, 10, 0);
        y.start(1, 11, 0);
        y.start(0, -1, 0);
        due("count(8)", y.count(8), 1);
        due("start(0, 11, 0)", y.start(0, 11, 0), 1);
        row("event(1, _)", what -> y.event(1, what), 0, 11, -1, -1, 1, 0, 0);
    }

    @Says(promise = 5, value = "with x COMES")
    static void startSendsAPartBack() {
        WarpYard y = yard(0, 1);
        y.start(1, 18, 0);
        y.start(0, 20, 0);
        y.step(0);
        y.start(0, 20, 0);
        due("told(0, 2), by one of the same minute", y.told(0, 2), 0);
        y.start(0, 19, 0);
        due("told(0, 2), by one a minute earlier", y.told(0, 2), 1);
    }

    @Says(promise = 5, value = "with x COMES")
    static void startWithAnyX() {
        int[] numbers = {LEAST, -1, 0, 1, MOST};
        for (int x : numbers) {
            WarpYard y = yard(0);
            due("start(0, 1, " + x + ")", y.start(0, 1, x), 0);
            due("number(0)", y.number(0), x);
        }
    }

    @Says(promise = 5, value = "BAD; STATE")
    static void startRefusedChangesNothing() {
        refused(BAD, "start(3, 50, 0)", y -> y.start(3, 50, 0));
        refused(BAD, "start(0, -1, 0)", y -> y.start(0, -1, 0));
        refused(BAD, "start(0, 100001, 0)", y -> y.start(0, 100001, 0));
        refused(STATE, "start(0, 1, 0)", y -> y.start(0, 1, 0));
    }

    // ---- promise 6: step

    @Says(promise = 6, value = "BAD")
    static void stepOfNoLine() {
        WarpYard y = yard(0, 3);
        y.start(0, 1, 0);
        y.start(1, 2, 0);
        each(BAD, "step(_)", y::step, LEAST, -1, 4, MOST);
        due("step(3)", y.step(3), 1);
        due("step(0)", y.step(0), 0);
    }

    @Says(promise = 6, value = "NONE: there is none")
    static void stepWithNothingThere() {
        WarpYard y = three();
        due("step(0), no event of it", y.step(0), NONE);
        y.start(0, 10, 0);
        due("step(3), no part on it", y.step(3), NONE);
        due("step(0)", y.step(0), 1);
        due("step(0), all is done", y.step(0), NONE);
        due("step(1), one is on the way to it", y.step(1), NONE);
        y.deliver(0);
        due("step(1), it came", y.step(1), 2);
        due("step(1)", y.step(1), NONE);
        WarpYard z = three();
        z.start(0, 20, 0);
        z.step(0);
        z.start(0, 10, 0);
        z.deliver(1);
        due("step(1), a shadow waits there", z.step(1), NONE);
        z.deliver(0);
        due("step(1), what came is gone", z.step(1), NONE);
    }

    @Says(promise = 6, value = "the EVENT with the least KEY of those that are there, not DONE, at its PARTS")
    static void stepOfTheLeast() {
        WarpYard y = yard(0, 0, 1);
        y.start(2, 1, 0);
        y.start(0, 9, 0);
        y.start(1, 8, 0);
        y.start(0, 10, 0);
        y.start(1, 9, 0);
        int[] due = {2, 1, 4, 3, NONE};
        for (int e : due) due("step(0)", y.step(0), e);
        due("step(1)", y.step(1), 0);
    }

    @Says(promise = 6, value = "STATE: its MINUTE is more than the limit above that of THE FLOOR")
    static void stepBeyondTheLimit() {
        int[] limits = {0, 1, 7, 999, 1000};
        for (int limit : limits) {
            WarpYard y = yard(0, 1);
            y.start(1, 10, 0);
            y.start(0, 11 + limit, 0);
            y.limit(limit);
            String before = all(y);
            due("step(0), limit " + limit + ", one more above the floor", y.step(0), STATE);
            due("what is told behind it", all(y), before);
            if (limit > 0) {
                y.start(0, 10 + limit, 0);
                due("step(0), limit " + limit + ", as many above the floor", y.step(0), 2);
            }
            due("step(1), the floor itself", y.step(1), 0);
        }
    }

    @Says(promise = 6, value = "STATE: its MINUTE is more than the limit above that of THE FLOOR")
    static void stepAtTheFloorsMinuteWithLimitZero() {
        WarpYard y = yard(0, 1, 2);
        acts(y, 0, act(2, 0, 1, 5), act(2, 0, 2, 5), act(2, 0, 2, 6));
        y.start(0, 10, 0);
        y.step(0);
        y.deliverAll();
        y.limit(0);
        due("step(2): the floor's minute, by another key", y.step(2), 2);
        due("step(2): a minute more", y.step(2), STATE);
        due("step(1)", y.step(1), 1);
        due("step(2): now it is the floor", y.step(2), 3);
    }

    @Says(promise = 6, value = "STATE: its MINUTE is more than the limit above that of THE FLOOR")
    static void stepLimitFromOneOnTheWay() {
        WarpYard y = three();
        y.start(0, 10, 0);
        y.step(0);              // event 2 is on the way, at minute 15
        y.step(2);
        y.start(0, 18, 0);
        y.start(2, 19, 0);
        y.limit(3);
        due("step(2), 4 above it", y.step(2), STATE);
        due("step(0), 3 above it", y.step(0), 3);
    }

    @Says(promise = 6, value = "STATE: its MINUTE is more than the limit above that of THE FLOOR")
    static void stepLimitFromAShadow() {
        WarpYard y = shadowAlone();
        y.start(2, 30, 0);
        y.limit(3);
        due("step(2), 4 above the shadow's event", y.step(2), STATE);
        y.limit(4);
        due("step(2), 4 above the shadow's event, limit 4", y.step(2), 5);
    }

    @Says(promise = 6, value = "FULL: there are more than 392 EVENTS")
    static void stepWithTooManyEvents() {
        WarpYard y = breeder(8);
        due("run(0, 48)", y.run(0, 48), 48);
        due("count(1)", y.count(1), 392);
        due("step(0) with 392, done or not", y.step(0) >= 0 ? 1 : 0, 1);
        due("count(1)", y.count(1), 400);
        due("step(0) with 400", y.step(0), FULL);
        WarpYard z = breeder(9);
        due("run(0, 48)", z.run(0, 48), 48);
        due("count(1)", z.count(1), 393);
        due("step(0) with 393", z.step(0), FULL);
        due("told(0, 1)", z.told(0, 1), 48);
    }

    @Says(promise = 6, value = "FULL: there are more than 392 EVENTS")
    static void stepThatSendsNothingWithTooManyEvents() {
        WarpYard y = yard(0);
        for (int i = 0; i < 392; i++) y.start(0, i, 0);
        due("step(0) with 392", y.step(0), 0);
        y.start(0, 5000, 0);
        due("step(0) with 393", y.step(0), FULL);
    }

    @Says(promise = 6, value = "NONE: there is none. BAD; STATE: its MINUTE is more than the limit above that of "
            + "THE FLOOR; FULL: there are more than 392 EVENTS.")
    static void stepRefusedInThisOrder() {
        WarpYard y = yard(0, 1);
        for (int i = 0; i < 393; i++) y.start(i == 0 ? 1 : 0, i * 5, 0);
        due("step(0) with 393", y.step(0), FULL);
        y.limit(4);
        due("step(0) with 393, beyond the limit", y.step(0), STATE);
        due("step(2) with 393, nothing there", y.step(2), NONE);
        each(BAD, "step(_) with 393", y::step, -1, 4);
    }

    @Says(promise = 6, value = "NONE: there is none. BAD; STATE")
    static void stepRefusedChangesNothing() {
        refused(BAD, "step(4)", y -> y.step(4));
        refused(NONE, "step(1)", y -> y.step(1));
        refused(STATE, "step(0)", y -> y.step(0));
    }

    // ---- promise 7: run

    @Says(promise = 7, value = "BAD")
    static void runOfNoLine() {
        WarpYard y = yard(0, 3);
        y.start(0, 1, 0);
        y.start(1, 2, 0);
        each(BAD, "run(_, 1)", line -> y.run(line, 1), LEAST, -1, 4, MOST);
        due("run(3, 1)", y.run(3, 1), 1);
        due("run(0, 1)", y.run(0, 1), 1);
    }

    @Says(promise = 7, value = "up to n (0 .. 200)")
    static void runOfWrongN() {
        WarpYard y = yard(0);
        for (int i = 0; i < 202; i++) y.start(0, i, 0);
        each(BAD, "run(0, _)", n -> y.run(0, n), LEAST, -1, 201, MOST);
        due("told(0, 1)", y.told(0, 1), 0);
        due("run(0, 0)", y.run(0, 0), 0);
        due("told(0, 1)", y.told(0, 1), 0);
        due("run(0, 1)", y.run(0, 1), 1);
        due("told(0, 1)", y.told(0, 1), 1);
        due("run(0, 200)", y.run(0, 200), 200);
        due("told(0, 1)", y.told(0, 1), 201);
    }

    @Says(promise = 7, value = "has nothing to do")
    static void runTillNothingIsThere() {
        WarpYard y = yard(0, 1);
        due("run(0, 200)", y.run(0, 200), 0);
        y.start(1, 1, 0);
        due("run(0, 200), another line's", y.run(0, 200), 0);
        for (int i = 0; i < 3; i++) y.start(0, 10 + i, 0);
        due("run(0, 3)", y.run(0, 3), 3);
        due("run(0, 3)", y.run(0, 3), 0);
        due("told(1, 1)", y.told(1, 1), 0);
    }

    @Says(promise = 7, value = "till one is refused")
    static void runTillTheLimit() {
        WarpYard y = yard(0, 1);
        y.start(1, 10, 0);
        for (int i = 1; i <= 5; i++) y.start(0, 10 + i, 0);
        y.limit(3);
        due("run(0, 200)", y.run(0, 200), 3);
        due("run(0, 200)", y.run(0, 200), 0);
        y.step(1);
        due("run(0, 200), the floor is theirs", y.run(0, 200), 2);
    }

    @Says(promise = 7, value = "till one is refused")
    static void runTillItIsFull() {
        WarpYard y = breeder(9);
        due("run(0, 200)", y.run(0, 200), 48);
        due("run(0, 200)", y.run(0, 200), 0);
        due("count(1)", y.count(1), 393);
    }

    @Says(promise = 7, value = "Steps of a LINE")
    static void runDoesWhatItsStepsSend() {
        WarpYard y = yard(0);
        acts(y, 0, act(2, 0, 0, 20));
        y.start(0, 99941, 0);
        due("run(0, 200): 99941, 99961, 99981 and no more", y.run(0, 200), 3);
        due("event(2, 6)", y.event(2, 6), 6);
    }

    @Says(promise = 7, value = "BAD")
    static void runRefusedChangesNothing() {
        refused(BAD, "run(4, 1)", y -> y.run(4, 1));
        refused(BAD, "run(2, 201)", y -> y.run(2, 201));
        refused(BAD, "run(2, -1)", y -> y.run(2, -1));
        refused(0, "run(2, 0)", y -> y.run(2, 0));
        refused(0, "run(0, 200)", y -> y.run(0, 200));
    }

    // ---- promise 8: deliver

    @Says(promise = 8, value = "BAD")
    static void deliverFromNoPlace() {
        WarpYard y = three();
        each(BAD, "deliver(_), nothing is on the way", y::deliver, LEAST, -1, 0, 1, MOST);
        y.start(0, 10, 0);
        y.start(0, 20, 0);
        y.start(0, 30, 0);
        y.run(0, 3);
        each(BAD, "deliver(_), three are on the way", y::deliver, LEAST, -1, 3, MOST);
        due("count(2)", y.count(2), 3);
        due("deliver(2)", y.deliver(2), 1);
        due("deliver(2)", y.deliver(2), BAD);
        due("deliver(1)", y.deliver(1), 1);
        due("deliver(1)", y.deliver(1), BAD);
        due("deliver(0)", y.deliver(0), 1);
        due("deliver(0)", y.deliver(0), BAD);
    }

    @Says(promise = 8, value = "What stands at place i (from 0) ON THE WAY comes")
    static void deliverOneFromTheMiddle() {
        WarpYard y = three();
        for (int i = 1; i <= 3; i++) y.start(0, 10 * i, 0);
        y.run(0, 3);            // events 4, 5, 6
        due("deliver(1)", y.deliver(1), 1);
        due("event(5, 5)", y.event(5, 5), 0);
        row("way(_, 0)", i -> y.way(i, 0), 4, 6, NONE);
    }

    @Says(promise = 8, value = "1 an EVENT, 2 a SHADOW")
    static void deliverAnEventAndAShadow() {
        WarpYard y = twins();
        due("deliver(1)", y.deliver(1), 2);
        due("deliver(0)", y.deliver(0), 1);
        due("deliver(0)", y.deliver(0), 1);
    }

    @Says(promise = 8, value = "BAD")
    static void deliverRefusedChangesNothing() {
        refused(BAD, "deliver(-1)", y -> y.deliver(-1));
        refused(BAD, "deliver(3)", y -> y.deliver(3));
    }

    // ---- promise 9: deliverAll

    @Says(promise = 9, value = "how many came")
    static void deliverAllOfNone() {
        WarpYard y = new WarpYard();
        due("deliverAll(), no parts", y.deliverAll(), 0);
        WarpYard z = three();
        due("deliverAll(), none on the way", z.deliverAll(), 0);
        z.start(0, 10, 0);
        z.step(0);
        due("deliverAll(), one", z.deliverAll(), 1);
        due("deliverAll(), none any more", z.deliverAll(), 0);
    }

    /** Event 2 and its shadow are on the way: would the shadow come first, no one would go back. */
    @Says(promise = 9, value = "the first one each time")
    static void deliverAllFromTheFirstOn() {
        WarpYard y = three();
        y.start(0, 20, 0);
        y.step(0);
        y.start(1, 30, 0);
        y.step(1);
        y.start(0, 10, 0);
        row("way(_, 1)", i -> y.way(i, 1), 0, 1, NONE);
        due("deliverAll()", y.deliverAll(), 2);
        due("told(1, 2)", y.told(1, 2), 1);
    }

    @Says(promise = 9, value = "those that come there meanwhile, too")
    static void deliverAllAndWhatComesThere() {
        WarpYard y = yard(0, 1, 2, 3);
        acts(y, 0, act(2, 0, 1, 5));
        acts(y, 1, act(2, 0, 2, 5));
        acts(y, 2, act(2, 0, 3, 5));
        y.start(0, 10, 0);
        y.start(1, 50, 0);
        y.step(1);              // event 2 to part 2
        y.deliverAll();
        y.step(2);              // event 3 to part 3
        y.deliverAll();
        y.step(3);
        y.step(0);              // event 4 to part 1, which goes back
        due("count(2)", y.count(2), 1);
        due("deliverAll(): event 4, then a shadow of event 2, then one of event 3", y.deliverAll(), 3);
        due("count(2)", y.count(2), 0);
        due("told(3, 2)", y.told(3, 2), 1);
    }

    /** As many on the way as can be: 44 events each sent eight, which all have a shadow then. */
    @Says(promise = 9, value = "All ON THE WAY come")
    static void deliverAllOfVeryMany() {
        WarpYard y = yard(0, 1, 2);
        for (int i = 0; i < 8; i++) y.rule(0, 2, 0, 1, 1 + i);
        y.start(2, 1, 0);
        for (int i = 0; i < 44; i++) y.start(0, 10 + i, 0);
        due("run(0, 200)", y.run(0, 200), 44);
        due("count(1)", y.count(1), 397);
        due("count(2)", y.count(2), 352);
        y.start(0, 5, 0);
        due("count(2)", y.count(2), 704);
        row("way(_, 1)", i -> y.way(702 + i, 1), 1, 1, NONE);
        due("way(703, 0), of the one sent first", y.way(703, 0), 45);
        due("deliver(704)", y.deliver(704), BAD);
        due("deliver(703)", y.deliver(703), 2);
        due("told(1, 7)", y.told(1, 7), 1);
        due("deliverAll()", y.deliverAll(), 703);
        row("count(_)", y::count, 3, 398, 0, 352, 352);
        row("told(1, _)", what -> y.told(1, what), 1, 0, 0, 0, 0, 0, 0, 0);
    }

    // ---- promise 10: move

    @Says(promise = 10, value = "BAD")
    static void moveOfNoPart() {
        WarpYard y = yard(0, 1);
        each(BAD, "move(_, 2)", p -> y.move(p, 2), LEAST, -1, 2, 11, MOST);
        due("move(0, 2)", y.move(0, 2), 0);
        due("move(1, 2)", y.move(1, 2), 1);
        WarpYard z = twelve();
        due("move(12, 2)", z.move(12, 2), BAD);
        due("move(11, 2)", z.move(11, 2), 0);
    }

    @Says(promise = 10, value = "BAD")
    static void moveToNoLine() {
        WarpYard y = yard(1);
        each(BAD, "move(0, _)", line -> y.move(0, line), LEAST, -1, 4, MOST);
        due("told(0, 0)", y.told(0, 0), 1);
        due("move(0, 3)", y.move(0, 3), 1);
        due("move(0, 0)", y.move(0, 0), 3);
        due("move(0, 0), where it is", y.move(0, 0), 0);
        due("told(0, 0)", y.told(0, 0), 0);
    }

    @Says(promise = 10, value = "A PART is on another LINE from now on")
    static void moveFromNowOn() {
        WarpYard y = yard(0, 1);
        due("move(0, 2), ahead of the first start", y.move(0, 2), 0);
        y.start(0, 5, 0);
        y.start(1, 6, 0);
        due("step(0)", y.step(0), NONE);
        due("step(2)", y.step(2), 0);
        due("move(1, 2)", y.move(1, 2), 1);
        due("step(1)", y.step(1), NONE);
        due("step(2)", y.step(2), 1);
    }

    @Says(promise = 10, value = "BAD")
    static void moveRefusedChangesNothing() {
        refused(BAD, "move(3, 0)", y -> y.move(3, 0));
        refused(BAD, "move(0, 4)", y -> y.move(0, 4));
        refused(BAD, "move(0, -1)", y -> y.move(0, -1));
    }

    // ---- promise 11: limit

    @Says(promise = 11, value = "(0 .. 1000; NONE: no limit)")
    static void limitOutOfRange() {
        WarpYard y = new WarpYard();
        each(BAD, "limit(_)", y::limit, LEAST, -9, -4, -3, -2, 1001, MOST);
        due("limit(0)", y.limit(0), NONE);
        due("limit(1000)", y.limit(1000), 0);
        due("limit(NONE)", y.limit(NONE), 1000);
        due("limit(1)", y.limit(1), NONE);
    }

    @Says(promise = 11, value = "what it was")
    static void limitRefusedStays() {
        WarpYard y = new WarpYard();
        y.limit(5);
        each(BAD, "limit(_)", y::limit, -2, 1001);
        due("limit(5)", y.limit(5), 5);
        due("limit(NONE)", y.limit(NONE), 5);
        due("limit(NONE)", y.limit(NONE), NONE);
    }

    @Says(promise = 11, value = "LINES do no EVENTS more than n MINUTES")
    static void limitHoldsForAllLines() {
        WarpYard y = yard(0, 1, 2, 3);
        y.start(0, 10, 0);
        for (int p = 1; p < 4; p++) y.start(p, 16, 0);
        y.limit(5);
        each(STATE, "step(_)", y::step, 1, 2, 3);
        y.limit(6);
        row("step(_)", y::step, 0, 1, 2, 3);
    }

    @Says(promise = 11, value = "NONE: no limit")
    static void limitTakenAway() {
        WarpYard y = yard(0, 1);
        y.start(0, 0, 0);
        y.start(1, 100000, 0);
        y.limit(1000);
        due("step(1)", y.step(1), STATE);
        y.limit(NONE);
        due("step(1)", y.step(1), 1);
    }

    // ---- promise 12: keep

    @Says(promise = 12, value = "(1 .. 9; nothing told changes by that): 1. BAD.")
    static void keepOutOfRange() {
        WarpYard y = new WarpYard();
        each(BAD, "keep(_)", y::keep, LEAST, -1, 0, 10, MOST);
        each(1, "keep(_)", y::keep, 1, 2, 3, 4, 5, 6, 7, 8, 9);
        each(BAD, "keep(_)", y::keep, 0, 10);
    }

    /** Parts that draw, send, print, fail and go back, up to a number of calls. */
    private static WarpYard busy(int k, int calls) {
        WarpYard y = yard(0, 1, 2);
        for (int i = 0; i < 7; i++) y.tear(0, 40 + i);
        acts(y, 0, act(1, 0, 0, 3), act(0, 0, 1, 0), act(5, 0, 0, 0), act(2, 0, 1, 4), act(3, 1, 0, 0), act(5, 1, 0, 0));
        acts(y, 1, act(0, 2, 0, 0), act(4, 2, 1, 0), act(2, 2, 0, 6), act(5, 2, 0, 0));
        for (int minute = 1; minute < 90; minute += 24) y.start(2, minute, 0);
        y.keep(k);
        for (int i = 0; i < calls; i++) {
            switch (i % 7) {
                case 0 -> y.start(i % 2, 26 + i * 17 % 60, i);
                case 1, 4 -> y.run(0, 3);
                case 2 -> y.deliver(i % 3);
                case 3, 5 -> y.run(1, 2);
                default -> y.start(0, 26 + i * 23 % 60, 2 * i);
            }
            if (i % 9 == 8) y.step(2);
            if (i % 20 == 19) y.deliverAll();
        }
        return y;
    }

    @Says(promise = 12, value = "nothing told changes by that")
    static void keepChangesNothingTold() {
        for (int calls = 1; calls <= 30; calls++) {
            String first = all(busy(1, calls));
            for (int k = 2; k <= 9; k++) due("keep(" + k + ") and " + calls + " calls", all(busy(k, calls)), first);
        }
    }

    @Says(promise = 12, value = "nothing told changes by that")
    static void keepChangedMeanwhile() {
        for (int k = 1; k <= 9; k++) {
            for (int back = 0; back < 12; back++) {
                WarpYard y = yard(0, 1);
                acts(y, 0, act(1, 0, 0, 3), act(0, 0, 0, 0));
                y.start(1, 1, 0);
                int sum = 0;
                for (int i = 0; i < 12; i++) {
                    y.start(0, 10 + 10 * i, i);
                    y.keep(1 + (k + i) % 9);
                    y.step(0);
                    if (i < back) sum = sum * 3 + 10 + 10 * i + i;
                }
                y.start(0, 5 + 10 * back, 0);
                due("cell(0, 0), back behind " + back, y.cell(0, 0), sum);
                due("told(0, 3)", y.told(0, 3), back);
                due("told(0, 2)", y.told(0, 2), 12 - back);
            }
        }
    }

    // ---- promise 13: floor

    @Says(promise = 13, value = "BAD")
    static void floorOfWrongWhat() {
        WarpYard y = new WarpYard();
        each(BAD, "floor(_), there is none", y::floor, LEAST, -1, 4, MOST);
        WarpYard z = three();
        each(BAD, "floor(_)", z::floor, LEAST, -1, 4, MOST);
        row("floor(_)", z::floor, 1, -1, -1, 0);
    }

    @Says(promise = 13, value = "-9: there is none")
    static void floorWithNothingOpen() {
        WarpYard y = yard(0);
        row("floor(_), no events", y::floor, -9, -9, -9, -9);
        y.start(0, 0, 0);
        row("floor(_), one at minute 0", y::floor, 0, -1, -1, 0);
        y.step(0);
        row("floor(_), all is done", y::floor, -9, -9, -9, -9);
        WarpYard z = shadowAlone();
        z.deliver(0);
        row("floor(_), all is done or gone", z::floor, -9, -9, -9, -9);
    }

    @Says(promise = 13, value = "0 its MINUTE, 1 the sender's MINUTE, 2 the sender, 3 the count")
    static void floorOfOneSent() {
        WarpYard y = yard(1, 0, 2);
        acts(y, 1, act(2, 0, 2, 7), act(2, 0, 2, 5));
        y.start(1, 10, 0);
        y.step(0);
        row("floor(_)", y::floor, 15, 10, 1, 1);
    }

    // ---- promise 14: cell

    @Says(promise = 14, value = "0: none such")
    static void cellOfNone() {
        WarpYard y = one(7, 4, act(0, 0, 0, 0), act(0, 1, 1, 0), act(0, 2, 2, 0), act(0, 3, 3, 0));
        row("cell(0, _)", c -> y.cell(0, c), 4, 5, 6, 7, 0);
        each(0, "cell(0, _)", c -> y.cell(0, c), LEAST, -1, 4, 5, 8, MOST);
        each(0, "cell(_, 0)", p -> y.cell(p, 0), LEAST, -1, 1, 12, MOST);
    }

    @Says(promise = 14, value = "A CELL of a PART as it is now")
    static void cellOfTheTwelfthPart() {
        WarpYard y = twelve();
        acts(y, 11, act(0, 3, 0, 0));
        y.start(11, 1, 6);
        due("cell(11, 3), not done", y.cell(11, 3), 0);
        y.step(0);
        due("cell(11, 3)", y.cell(11, 3), 6);
        due("cell(12, 3)", y.cell(12, 3), 0);
        due("cell(10, 3)", y.cell(10, 3), 0);
    }

    @Says(promise = 14, value = "A CELL of a PART as it is now")
    static void cellNotSettled() {
        WarpYard y = three();
        y.start(0, 10, 3);
        y.step(0);
        due("cell(0, 0)", y.cell(0, 0), 3);
        due("settled(0, 0)", y.settled(0, 0), 0);
    }

    // ---- promise 15: settled

    @Says(promise = 15, value = "0: none such")
    static void settledOfNone() {
        WarpYard y = one(7, 4, act(0, 0, 0, 0), act(0, 1, 1, 0), act(0, 2, 2, 0), act(0, 3, 3, 0));
        row("settled(0, _)", c -> y.settled(0, c), 4, 5, 6, 7, 0);
        each(0, "settled(0, _)", c -> y.settled(0, c), LEAST, -1, 4, 5, 8, MOST);
        each(0, "settled(_, 0)", p -> y.settled(p, 0), LEAST, -1, 1, 12, MOST);
    }

    @Says(promise = 15, value = "A SETTLED CELL of a PART")
    static void settledOfTheTwelfthPart() {
        WarpYard y = twelve();
        acts(y, 11, act(0, 3, 0, 0));
        y.start(11, 1, 6);
        y.step(0);
        due("settled(11, 3)", y.settled(11, 3), 6);
        due("settled(12, 3)", y.settled(12, 3), 0);
        due("settled(10, 3)", y.settled(10, 3), 0);
    }

    @Says(promise = 15, value = "SETTLED CELLS of a PART are those behind the SETTLED EVENTS that it did")
    static void settledUpToTheFloor() {
        WarpYard y = yard(0, 1);
        acts(y, 0, act(0, 0, 0, 0));
        y.start(1, 1, 0);
        for (int i = 0; i < 4; i++) {
            y.start(0, 10 + i, 1 << i);
            y.start(1, 10 + i, 0);
        }
        y.run(0, 9);
        int[] due = {0, 1, 3, 7, 15, 15};
        for (int sum : due) {
            due("settled(0, 0)", y.settled(0, 0), sum);
            due("cell(0, 0)", y.cell(0, 0), 15);
            y.step(1);
        }
    }

    // ---- promise 16: told

    @Says(promise = 16, value = "BAD")
    static void toldOfNoPart() {
        WarpYard y = yard(2, 1);
        each(BAD, "told(_, 0)", p -> y.told(p, 0), LEAST, -1, 2, 11, MOST);
        each(BAD, "told(_, 7)", p -> y.told(p, 7), LEAST, -1, 2, 11, MOST);
        row("told(_, 0)", p -> y.told(p, 0), 2, 1, BAD);
        WarpYard z = twelve();
        due("told(11, 0)", z.told(11, 0), 0);
        due("told(12, 0)", z.told(12, 0), BAD);
    }

    @Says(promise = 16, value = "BAD")
    static void toldOfWrongWhat() {
        WarpYard y = yard(2);
        each(BAD, "told(0, _)", what -> y.told(0, what), LEAST, -1, 8, MOST);
        row("told(0, _)", what -> y.told(0, what), 2, 0, 0, 0, 0, 0, 0, 0, BAD);
    }

    @Says(promise = 16, value = "1 how many EVENTS it did (those done again, too), 2 how many were TAKEN BACK, 3 how many are DONE")
    static void toldOfThoseDoneAgain() {
        WarpYard y = yard(0, 1);
        y.start(1, 1, 0);
        for (int i = 0; i < 3; i++) {
            y.start(0, 20 - i, 0);
            y.run(0, 9);
        }
        row("told(0, _)", what -> y.told(0, what), 0, 6, 3, 3, 0);
        y.start(0, 10, 0);
        row("told(0, _)", what -> y.told(0, what), 0, 6, 6, 0, 4);
    }

    @Says(promise = 16, value = "2 how many were TAKEN BACK")
    static void toldOfOneTakenBackByItsShadow() {
        WarpYard y = shadowAlone();
        row("told(1, _)", what -> y.told(1, what), 1, 3, 1, 2, 0);
        y.deliver(0);
        row("told(1, _)", what -> y.told(1, what), 1, 3, 2, 1, 0);
    }

    @Says(promise = 16, value = "4 how many are there, not DONE")
    static void toldOfThoseThere() {
        WarpYard z = yard(0);
        z.start(0, 10, 0);
        due("told(0, 4), the first event", z.told(0, 4), 1);
        WarpYard y = three();
        due("told(0, 4)", y.told(0, 4), 0);
        y.start(0, 10, 0);
        y.start(0, 20, 0);
        due("told(0, 4)", y.told(0, 4), 2);
        y.run(0, 2);
        due("told(0, 4)", y.told(0, 4), 0);
        due("told(1, 4), two are on the way", y.told(1, 4), 0);
        y.deliver(0);
        due("told(1, 4)", y.told(1, 4), 1);
    }

    @Says(promise = 16, value = "5 how many it DREW, 6 how many it SENT (as it is now)")
    static void toldOfWhatGoesBack() {
        WarpYard y = yard(0, 1);
        y.tear(0, 9);
        y.tear(0, 9);
        y.tear(0, 9);
        acts(y, 0, act(2, 0, 1, 9), act(2, 0, 1, 9), act(3, 0, 0, 0));
        y.start(1, 1, 0);
        for (int i = 1; i <= 3; i++) y.start(0, 10 * i, 0);
        y.run(0, 3);
        due("told(0, 5)", y.told(0, 5), 3);
        due("told(0, 6)", y.told(0, 6), 6);
        y.start(0, 15, 0);
        due("told(0, 5), two went back", y.told(0, 5), 1);
        due("told(0, 6), two went back", y.told(0, 6), 2);
    }

    @Says(promise = 16, value = "7 how many SHADOWS wait")
    static void toldOfWaitingShadows() {
        WarpYard y = three();
        y.start(0, 20, 0);
        y.start(0, 30, 0);
        y.run(0, 2);            // events 3 and 4
        y.start(0, 10, 0);      // their shadows, event 4's first
        due("told(1, 7), they are on the way", y.told(1, 7), 0);
        y.deliver(2);
        due("told(1, 7)", y.told(1, 7), 1);
        y.deliver(2);
        due("told(1, 7)", y.told(1, 7), 2);
        y.deliver(0);
        due("told(1, 7), one met", y.told(1, 7), 1);
        y.deliver(0);
        due("told(1, 7)", y.told(1, 7), 0);
        due("told(0, 7)", y.told(0, 7), 0);
    }

    // ---- promise 17: event

    @Says(promise = 17, value = "BAD")
    static void eventOfNoNumber() {
        WarpYard y = new WarpYard();
        each(BAD, "event(_, 0), there are none", e -> y.event(e, 0), LEAST, -1, 0, 1, MOST);
        WarpYard z = yard(0);
        z.start(0, 5, 0);
        z.start(0, 6, 0);
        each(BAD, "event(_, 0)", e -> z.event(e, 0), LEAST, -1, 2, 399, 400, MOST);
        row("event(_, 1)", e -> z.event(e, 1), 5, 6, BAD);
    }

    @Says(promise = 17, value = "EVENTS 0 .. 399")
    static void eventFourHundredth() {
        WarpYard y = yard(0);
        for (int i = 0; i < 400; i++) y.start(0, i, 0);
        due("event(399, 1)", y.event(399, 1), 399);
        due("event(400, 1)", y.event(400, 1), BAD);
    }

    @Says(promise = 17, value = "BAD")
    static void eventOfWrongWhat() {
        WarpYard y = yard(0);
        y.start(0, 5, 0);
        each(BAD, "event(0, _)", what -> y.event(0, what), LEAST, -1, 7, MOST);
        row("event(0, _)", what -> y.event(0, what), 0, 5, -1, -1, 0, 0, 0, BAD);
    }

    @Says(promise = 17, value = "5 how it is: 0 there, not DONE, 1 DONE, 2 SETTLED, 3 ON THE WAY, 4 gone")
    static void eventAsItIs() {
        WarpYard y = three();
        y.start(0, 20, 0);
        y.step(0);
        due("event(2, 5), sent", y.event(2, 5), 3);
        y.deliver(0);
        due("event(2, 5), came", y.event(2, 5), 0);
        y.step(1);
        due("event(2, 5), done", y.event(2, 5), 1);
        y.step(2);
        due("event(2, 5), settled", y.event(2, 5), 2);
        WarpYard z = three();
        z.start(0, 20, 0);
        z.step(0);
        z.start(0, 10, 0);
        z.deliver(1);
        due("event(2, 5), its shadow waits", z.event(2, 5), 3);
        z.deliver(0);
        due("event(2, 5), met", z.event(2, 5), 4);
        WarpYard w = shadowAlone();
        due("event(2, 5), done, its shadow on the way", w.event(2, 5), 1);
        w.deliver(0);
        due("event(2, 5), met", w.event(2, 5), 4);
    }

    @Says(promise = 17, value = "6 how it FAILED (0: not; of one that is not DONE 0)")
    static void eventThatFailed() {
        WarpYard y = yard(0, 1);
        acts(y, 0, act(6, 0, 1, 0));
        y.start(1, 1, 0);
        y.start(0, 20, 0);
        due("event(1, 6), not done", y.event(1, 6), 0);
        y.step(0);
        due("event(1, 6), done", y.event(1, 6), 3);
        y.start(0, 10, 0);
        due("event(1, 6), taken back", y.event(1, 6), 0);
        y.run(0, 2);
        due("event(1, 6), done again", y.event(1, 6), 3);
        y.step(1);
        due("event(1, 6), settled", y.event(1, 6), 3);
        due("event(0, 6), which did not", y.event(0, 6), 0);
    }

    @Says(promise = 17, value = "of one that is not DONE 0")
    static void eventThatFailedAndIsGone() {
        WarpYard y = yard(0, 1, 2);
        acts(y, 0, act(2, 0, 1, 5));
        acts(y, 1, act(7, 0, 0, 0));
        y.start(2, 1, 0);
        y.start(0, 20, 0);
        y.step(0);
        y.deliver(0);
        y.step(1);
        due("event(2, 6)", y.event(2, 6), 5);
        y.start(0, 10, 0);
        y.deliver(0);
        due("event(2, 5)", y.event(2, 5), 4);
        due("event(2, 6)", y.event(2, 6), 0);
    }

    // ---- promise 18: number

    @Says(promise = 18, value = "0: no such")
    static void numberOfNone() {
        WarpYard y = yard(0);
        each(0, "number(_), there are none", y::number, LEAST, -1, 0, 1, MOST);
        y.start(0, 5, 31);
        y.start(0, 6, 32);
        each(0, "number(_)", y::number, LEAST, -1, 2, 399, 400, MOST);
        row("number(_)", y::number, 31, 32, 0);
    }

    @Says(promise = 18, value = "EVENTS 0 .. 399")
    static void numberOfTheLast() {
        WarpYard y = yard(0);
        for (int i = 0; i < 400; i++) y.start(0, i, 1000 + i);
        due("number(399)", y.number(399), 1399);
        due("number(400)", y.number(400), 0);
    }

    @Says(promise = 18, value = "The number x of an EVENT")
    static void numberOfOneGone() {
        WarpYard y = shadowAlone();
        y.deliver(0);
        due("event(2, 5)", y.event(2, 5), 4);
        due("number(2)", y.number(2), 1);
    }

    // ---- promise 19: way

    @Says(promise = 19, value = "NONE: no such place")
    static void wayOfNoPlace() {
        WarpYard y = three();
        each(NONE, "way(_, 0), nothing is on the way", i -> y.way(i, 0), LEAST, -1, 0, 1, MOST);
        each(NONE, "way(_, 1), nothing is on the way", i -> y.way(i, 1), LEAST, -1, 0, 1, MOST);
        WarpYard z = twins();
        each(NONE, "way(_, 0)", i -> z.way(i, 0), LEAST, -1, 3, MOST);
        each(NONE, "way(_, 1)", i -> z.way(i, 1), LEAST, -1, 3, MOST);
        row("way(_, 0)", i -> z.way(i, 0), 2, 2, 4, NONE);
        z.deliver(0);
        row("way(_, 0)", i -> z.way(i, 0), 2, 4, NONE);
    }

    @Says(promise = 19, value = "whether it is a SHADOW (what 1: 1, 0)")
    static void wayOfShadows() {
        WarpYard y = twins();
        row("way(_, 1)", i -> y.way(i, 1), 0, 1, 0, NONE);
        y.deliver(0);
        row("way(_, 1)", i -> y.way(i, 1), 1, 0, NONE);
    }

    @Says(promise = 19, value = "BAD")
    static void wayOfWrongWhat() {
        WarpYard y = twins();
        each(BAD, "way(0, _)", what -> y.way(0, what), LEAST, -1, 2, MOST);
        each(BAD, "way(3, _), no such place", what -> y.way(3, what), LEAST, -1, 2, MOST);
    }

    // ---- promise 20: count

    @Says(promise = 20, value = "BAD")
    static void countOfWrongWhat() {
        WarpYard y = three();
        each(BAD, "count(_)", y::count, LEAST, -1, 9, MOST);
        row("count(_)", y::count, 3, 1, 0, 0, 0, 0, 0, 0, 1, BAD);
    }

    @Says(promise = 20, value = "1 EVENTS")
    static void countOfEventsThatAreGoneToo() {
        WarpYard y = shadowAlone();
        due("count(1)", y.count(1), 5);
        y.deliver(0);
        due("event(2, 5)", y.event(2, 5), 4);
        due("count(1)", y.count(1), 5);
        due("count(8)", y.count(8), 3);
    }

    @Says(promise = 20, value = "2 ON THE WAY, 3 SHADOWS sent, 4 MET (pairs)")
    static void countOfShadows() {
        WarpYard y = twins();
        row("count(_)", y::count, 3, 5, 3, 1, 0);
        y.deliver(1);
        row("count(_), the shadow waits", y::count, 3, 5, 2, 1, 0);
        y.deliver(0);
        row("count(_), a pair met", y::count, 3, 5, 1, 1, 1);
    }

    @Says(promise = 20, value = "3 SHADOWS sent, 4 MET (pairs)")
    static void countOfShadowsThatComeAtOnce() {
        WarpYard y = yard(0, 0, 1);
        acts(y, 0, act(2, 0, 1, 5), act(2, 0, 1, 6));
        y.start(2, 1, 0);
        y.start(0, 20, 0);
        y.step(0);
        y.start(0, 10, 0);
        row("count(_)", y::count, 3, 5, 0, 2, 2);
    }

    @Says(promise = 20, value = "5 OUT, 6 SETTLED EVENTS, 7 SETTLED EVENTS that FAILED")
    static void countOfTheSettled() {
        WarpYard y = yard(0, 1);
        acts(y, 0, act(5, 0, 0, 0), act(5, 0, 0, 0), act(6, 0, 0, 0));
        y.start(1, 10, 0);
        y.start(0, 11, 0);
        y.start(1, 11, 0);
        y.start(0, 12, 0);
        y.run(0, 2);
        int[][] due = {{0, 0, 0}, {2, 2, 1}, {4, 4, 2}};
        for (int[] d : due) {
            row("count(5 + _)", what -> y.count(5 + what), d);
            y.step(1);
        }
    }

    // ---- promise 21: out

    /** Part 1 prints 0, 2 at minute 20 and 0, 3 at 30, part 0 prints 0, 3 at 30; all is settled. */
    private static WarpYard printers() {
        WarpYard y = yard(0, 1);
        for (int p = 0; p < 2; p++) acts(y, p, act(5, 1, 0, 0), act(0, 0, 0, 0), act(5, 0, 0, 0));
        y.start(1, 20, 2);
        y.start(0, 30, 3);
        y.start(1, 30, 1);
        y.run(0, 1);
        y.run(1, 2);
        return y;
    }

    @Says(promise = 21, value = "NONE: no such")
    static void outOfNone() {
        WarpYard y = new WarpYard();
        each(NONE, "out(_, 0), nothing is", i -> y.out(i, 0), LEAST, -1, 0, 1, MOST);
        WarpYard z = printers();
        each(NONE, "out(_, 0)", i -> z.out(i, 0), LEAST, -1, 6, MOST);
        each(NONE, "out(_, 1)", i -> z.out(i, 1), LEAST, -1, 6, MOST);
        row("out(_, 0)", i -> z.out(i, 0), 1, 1, 0, 0, 1, 1, NONE);
        row("out(_, 1)", i -> z.out(i, 1), 20, 20, 30, 30, 30, 30, NONE);
    }

    @Says(promise = 21, value = "BAD")
    static void outOfWrongWhat() {
        WarpYard y = printers();
        each(BAD, "out(0, _)", what -> y.out(0, what), LEAST, -1, 2, MOST);
        each(BAD, "out(6, _), no such", what -> y.out(6, what), LEAST, -1, 2, MOST);
    }

    @Says(promise = 21, value = "What was PRINTED by SETTLED EVENTS is OUT")
    static void outUpToTheFloor() {
        WarpYard y = yard(0, 1);
        acts(y, 0, act(5, 0, 0, 0));
        y.start(1, 10, 0);
        y.start(0, 11, 0);      // ahead of the floor to come
        y.start(1, 11, 0);
        y.start(0, 11, 0);      // above it by its count alone
        y.run(0, 2);
        due("out(0, 1), nothing is settled", y.out(0, 1), NONE);
        y.step(1);
        due("floor(3)", y.floor(3), 2);
        row("out(_, 1)", i -> y.out(i, 1), 11, NONE);
        y.step(1);
        row("out(_, 1)", i -> y.out(i, 1), 11, 11, NONE);
    }

    @Says(promise = 21, value = "by KEYS, and of one EVENT in its order")
    static void outInItsOrder() {
        WarpYard y = yard(0, 1);
        for (int i = 0; i < 8; i++) y.rule(0, i % 2 == 0 ? 0 : 5, 0, 1, 0);
        for (int i = 0; i < 8; i++) y.rule(1, 5, i, 0, 0);
        y.start(1, 1, 0);
        y.start(0, 30, 4);
        y.step(0);
        y.start(0, 20, 0);
        y.run(0, 2);
        due("count(5), not settled", y.count(5), 0);
        y.step(1);
        due("count(5)", y.count(5), 16);
        for (int i = 0; i < 8; i++) due("out(" + i + ", 0)", y.out(i, 0), 1);
        row("printed(8 + _)", i -> y.printed(8 + i), 1, 2, 3, 4, 9, 14, 19, 24, 0);
        row("out(8 + _, 1)", i -> y.out(8 + i, 1), 20, 20, 20, 20, 30, 30, 30, 30, NONE);
    }

    @Says(promise = 21, value = "What was PRINTED by SETTLED EVENTS is OUT")
    static void outOfVeryMuch() {
        WarpYard y = yard(0);
        acts(y, 0, act(0, 0, 0, 0));
        for (int i = 0; i < 7; i++) y.rule(0, 5, i % 2, 0, 0);
        for (int i = 0; i < 392; i++) y.start(0, i, 1);
        y.run(0, 200);
        y.run(0, 192);
        due("count(5)", y.count(5), 7 * 392);
        row("out(2742 + _, 1)", i -> y.out(2742 + i, 1), 391, 391, NONE);
        row("printed(2741 + _)", i -> y.printed(2741 + i), 392, 0, 392, 0);
        due("same()", y.same(), 1);
    }

    // ---- promise 22: printed

    @Says(promise = 22, value = "0: no such")
    static void printedOfNone() {
        WarpYard y = new WarpYard();
        each(0, "printed(_), nothing is out", y::printed, LEAST, -1, 0, 1, MOST);
        WarpYard z = one(5, 7, act(0, 0, 0, 0), act(5, 0, 0, 0), act(0, 0, 1, 0), act(5, 0, 0, 0));
        each(0, "printed(_)", z::printed, LEAST, -1, 2, 3, MOST);
        row("printed(_)", z::printed, 7, 15, 0);
    }

    @Says(promise = 22, value = "What the i-th OUT is")
    static void printedOfAnyNumber() {
        int[] numbers = {LEAST, -1, 0, 1, MOST};
        for (int x : numbers) {
            WarpYard y = one(5, x, act(0, 0, 0, 0), act(5, 0, 0, 0));
            due("printed(0)", y.printed(0), x);
        }
    }

    @Says(promise = 22, value = "What the i-th OUT is")
    static void printedButNotSettled() {
        WarpYard y = three();
        y.start(1, 10, 5);
        y.step(1);
        due("printed(0)", y.printed(0), 0);
        y.step(2);
        due("printed(0)", y.printed(0), 5);
    }

    // ---- promise 23: failed

    @Says(promise = 23, value = "BAD")
    static void failedOfWrongWhat() {
        WarpYard y = new WarpYard();
        each(BAD, "failed(_), there is none", y::failed, LEAST, -1, 3, MOST);
        WarpYard z = one(5, 0, act(3, 0, 0, 0));
        each(BAD, "failed(_)", z::failed, LEAST, -1, 3, MOST);
        row("failed(_)", z::failed, 0, 1, 0, BAD);
    }

    @Says(promise = 23, value = "NONE: there is none")
    static void failedWithNone() {
        WarpYard y = new WarpYard();
        row("failed(_), no events", y::failed, NONE, NONE, NONE);
        WarpYard z = one(5, 0, act(5, 0, 0, 0));
        row("failed(_), none failed", z::failed, NONE, NONE, NONE);
        WarpYard w = yard(0, 1);
        acts(w, 0, act(3, 0, 0, 0));
        w.start(1, 5, 0);
        w.start(0, 6, 0);
        w.step(0);
        row("failed(_), none is settled", w::failed, NONE, NONE, NONE);
        w.step(1);
        row("failed(_)", w::failed, 1, 1, 0);
    }

    @Says(promise = 23, value = "The earliest SETTLED EVENT that FAILED, by KEYS")
    static void failedByKeys() {
        WarpYard y = yard(0, 1, 2);
        acts(y, 0, act(3, 0, 0, 0));
        acts(y, 1, act(7, 0, 0, 0));
        y.start(2, 1, 0);
        y.start(0, 30, 0);
        y.start(1, 20, 0);
        y.start(1, 30, 0);
        y.step(0);
        y.run(1, 2);
        y.step(2);
        row("failed(_)", y::failed, 2, 5, 1);
    }

    @Says(promise = 23, value = "The earliest SETTLED EVENT that FAILED, by KEYS")
    static void failedByTheCountAlone() {
        WarpYard y = yard(0, 1, 2);
        acts(y, 0, act(3, 0, 0, 0));
        acts(y, 1, act(7, 0, 0, 0));
        y.start(2, 1, 0);
        y.start(1, 30, 0);
        y.start(0, 30, 0);
        y.step(0);
        y.step(1);
        y.step(2);
        row("failed(_)", y::failed, 1, 5, 1);
    }

    // ---- promise 24: same; that it answers 0 where something differs, SameTest shows

    @Says(promise = 24, value = "1, 0")
    static void sameOfNothing() {
        WarpYard y = new WarpYard();
        due("same(), no parts", y.same(), 1);
        y.part(0);
        due("same(), no events", y.same(), 1);
        y.start(0, 0, 0);
        due("same(), nothing done", y.same(), 1);
    }

    @Says(promise = 24, value = "up to THE FLOOR")
    static void sameAtEachFloor() {
        WarpYard y = three();
        for (int i = 1; i <= 3; i++) {
            y.start(0, 10 * i, i);
            y.start(2, 10 * i, 0);
        }
        y.run(0, 3);
        for (int i = 0; i < 3; i++) {
            due("same()", y.same(), 1);
            y.step(2);
            due("same()", y.same(), 1);
            y.deliver(0);
            due("same()", y.same(), 1);
            y.step(1);
        }
        due("same()", y.same(), 1);
        y.step(2);
        due("floor(0)", y.floor(0), -9);
        due("same(), no floor", y.same(), 1);
        due("count(6)", y.count(6), 10);
    }

    @Says(promise = 24, value = "up to THE FLOOR")
    static void sameAtAShadow() {
        WarpYard y = shadowAlone();
        due("same()", y.same(), 1);
        due("count(6), but for event 2", y.count(6), 4);
        y.deliver(0);
        due("same()", y.same(), 1);
        due("count(6)", y.count(6), 4);
    }

    @Says(promise = 24, value = "as many EVENTS and failed ones")
    static void sameWithFourHundredEvents() {
        WarpYard y = breeder(8);
        y.run(0, 200);
        due("count(1)", y.count(1), 400);
        due("same()", y.same(), 1);
        WarpYard z = yard(0);
        acts(z, 0, act(5, 0, 0, 0), act(3, 0, 0, 0));
        for (int i = 0; i < 392; i++) z.start(0, i, 0);
        z.run(0, 200);
        z.run(0, 200);
        due("count(7)", z.count(7), 392);
        due("same()", z.same(), 1);
    }

    @Says(promise = 24, value = "Whether PLAIN gives the SETTLED CELLS of all PARTS")
    static void sameWithTwelveParts() {
        WarpYard y = twelve();
        for (int p = 0; p < 12; p++) acts(y, p, act(0, p, 0, 0), act(5, p, 0, 0));
        for (int p = 0; p < 12; p++) y.start(p, p, p);
        for (int p = 0; p < 12; p++) {
            due("same()", y.same(), 1);
            y.step(0);
        }
        due("same()", y.same(), 1);
    }

    /** What draws, sends and fails is done anew each time; the floor is the second of two sent. */
    @Says(promise = 24, value = "PLAIN: the starts alone")
    static void sameAskedAgain() {
        WarpYard y = yard(0, 1);
        y.tear(0, 6);
        acts(y, 0, act(2, 0, 1, 5), act(2, 0, 1, 5), act(3, 0, 0, 0), act(5, 0, 0, 0), act(6, 0, 1, 0));
        y.start(0, 10, 0);
        y.step(0);
        y.deliver(0);
        y.step(1);
        row("floor(_)", y::floor, 15, 10, 0, 1);
        for (int i = 0; i < 5; i++) due("same(), asked again", y.same(), 1);
        due("count(6)", y.count(6), 2);
        due("count(7)", y.count(7), 1);
        due("settled(0, 0)", y.settled(0, 0), 6);
    }
}
