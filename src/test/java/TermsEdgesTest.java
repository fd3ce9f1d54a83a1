import java.io.IOException;
import java.util.function.Supplier;

/**
 * The edges that the section 'Terms' of the document names: a test for each. It names the promise
 * whose call shows the sentence.
 */
public final class TermsEdgesTest extends Edges {
    public static void main(String[] args) throws IOException {
        runAll(TermsEdgesTest.class, 0);
    }

    /** A part whose first four acts make its cells these; it did one event at minute 50 with x 3. */
    private static WarpYard withCells(int[] cells, int[]... acts) {
        WarpYard y = yard(0);
        for (int i = 0; i < 4; i++) {
            y.tear(0, cells[i]);
            y.rule(0, 3, i, 0, 0);
        }
        y.tear(0, 98);
        acts(y, 0, acts);
        y.start(0, 50, 3);
        y.step(0);
        return y;
    }

    private static void dueCells(String what, WarpYard y, int... want) {
        row("cell(0, _), " + what, c -> y.cell(0, c), want);
    }

    // ---- cells

    @Says(promise = 14, value = "0 at first")
    static void cellsAtFirst() {
        WarpYard y = twelve();
        for (int part = 0; part < 12; part++) {
            int p = part;
            row("cell(" + p + ", _)", c -> y.cell(p, c), 0, 0, 0, 0);
            row("settled(" + p + ", _)", c -> y.settled(p, c), 0, 0, 0, 0);
            due("told(" + p + ", 5)", y.told(p, 5), 0);
            due("told(" + p + ", 6)", y.told(p, 6), 0);
        }
    }

    @Says(promise = 14, value = "32 bits, wrapping")
    static void cellsWrapAbove() {
        WarpYard y = one(1, MOST, act(0, 0, 0, 0));
        due("cell(0, 0)", y.cell(0, 0), MOST);
        y.start(0, 2, 1);
        y.step(0);
        due("cell(0, 0), one more", y.cell(0, 0), LEAST);
    }

    @Says(promise = 14, value = "32 bits, wrapping")
    static void cellsWrapBelow() {
        WarpYard y = one(1, LEAST, act(0, 0, 0, 0));
        due("cell(0, 0)", y.cell(0, 0), LEAST);
        y.start(0, 2, -1);
        y.step(0);
        due("cell(0, 0), one less", y.cell(0, 0), MOST);
    }

    @Says(promise = 14, value = "32 bits, wrapping")
    static void cellsWrapWhereXAndBAreAdded() {
        WarpYard y = one(1, MOST, act(0, 0, 15, 0));
        due("cell(0, 0): x + 15", y.cell(0, 0), LEAST + 14);
    }

    @Says(promise = 14, value = "32 bits, wrapping")
    static void cellsWrapInAProduct() {
        int[][] cases = {{MOST, 2}, {LEAST, 2}, {LEAST, -1}, {MOST, -3}, {1 << 30, 20}};
        for (int[] c : cases) {
            WarpYard y = withCells(new int[] {c[0], 0, 0, 0}, act(1, 1, 0, c[1]));
            due("cell(0, 1), " + c[0] + " * " + c[1] + " + 50", y.cell(0, 1), (int) ((long) c[0] * c[1] + 50));
        }
    }

    @Says(promise = 14, value = "32 bits, wrapping")
    static void cellsWrapWhereTheMinuteIsAdded() {
        WarpYard y = withCells(new int[] {MOST - 49, MOST - 50, 0, 0}, act(1, 2, 0, 1), act(1, 3, 1, 1));
        due("cell(0, 2)", y.cell(0, 2), LEAST);
        due("cell(0, 3)", y.cell(0, 3), MOST);
    }

    @Says(promise = 6, value = "(cells: modulo 4, from 0 on)")
    static void cellsOfAModulo4() {
        int[] cells = {20, 30, 40, 50};
        for (int a = 0; a < 16; a++) {
            String with = "a " + a;
            int at = a % 4;
            int[][] due = new int[4][];
            for (int i = 0; i < 4; i++) due[i] = cells.clone();
            due[0][at] += 3 + 6;
            dueCells("act 0, " + with, withCells(cells, act(0, a, 6, 0)), due[0]);
            due[1][at] = 40 * 2 + 50;
            dueCells("act 1, " + with, withCells(cells, act(1, a, 2, 2)), due[1]);
            due("number(1), act 2, " + with, withCells(cells, act(2, a, 0, 1)).number(1), cells[at]);
            due[2][at] = 98;
            dueCells("act 3, " + with, withCells(cells, act(3, a, 0, 0)), due[2]);
            due("printed(0), act 5, " + with, withCells(cells, act(5, a, 0, 0)).printed(0), cells[at]);
            due[3][at] /= 20;
            dueCells("act 6, " + with, withCells(cells, act(6, a, 0, 0)), due[3]);
        }
    }

    @Says(promise = 6, value = "(cells: modulo 4, from 0 on)")
    static void cellsOfAModulo4WherePassedOver() {
        for (int a = 0; a < 16; a++) {
            int[] cells = {1, 1, 1, 1};
            cells[a % 4] = 2;
            WarpYard y = withCells(cells, act(4, a, 1, 0), act(5, 0, 0, 0));
            due("count(5), act 4, a " + a + ", even", y.count(5), 0);
            int[] others = {2, 2, 2, 2};
            others[a % 4] = 1;
            WarpYard z = withCells(others, act(4, a, 1, 0), act(5, 0, 0, 0));
            due("count(5), act 4, a " + a + ", odd", z.count(5), 1);
        }
    }

    @Says(promise = 6, value = "(cells: modulo 4, from 0 on)")
    static void cellsOfBModulo4() {
        int[] cells = {9, 11, 13, 15};
        for (int b = 0; b < 16; b++) {
            String with = ", b " + b;
            int it = cells[b % 4];
            dueCells("act 1" + with, withCells(cells, act(1, 0, b, 1)), it + 50);
            dueCells("act 6" + with, withCells(cells, act(0, 0, 15, 0), act(0, 0, 15, 0), act(6, 0, b, 0)),
                    b % 4 == 0 ? 1 : 45 / it);
            dueCells("act 7" + with, withCells(cells, act(7, 0, b, 0)), it - 8);
        }
    }

    @Says(promise = 6, value = "(cells: modulo 4, from 0 on)")
    static void cellsOfAModulo4InAct7() {
        for (int a = 0; a < 16; a++) {
            int[] due = {9, 9, 9, 9};
            due[a % 4] = 1;
            dueCells("act 7, a " + a, withCells(new int[] {9, 9, 9, 9}, act(7, a, 3, 0)), due);
        }
    }

    // ---- acts

    @Says(promise = 6, value = "Its RULE: up to 8 ACTS")
    static void ruleOfNoActs() {
        WarpYard y = one(5, 7);
        dueCells("no acts", y, 0, 0, 0, 0);
        row("event(0, _)", what -> y.event(0, what), 0, 5, -1, -1, 0, 2, 0);
        row("told(0, _)", what -> y.told(0, what), 0, 1, 0, 1, 0, 0, 0, 0);
        due("count(5)", y.count(5), 0);
    }

    @Says(promise = 6, value = "the ACTS of its PART's RULE, in order")
    static void actsInOrder() {
        WarpYard y = one(5, 1, act(0, 0, 0, 0), act(1, 0, 0, 2), act(0, 0, 0, 0), act(1, 0, 0, 3),
                act(0, 0, 0, 0), act(1, 0, 0, 4), act(0, 0, 0, 0), act(1, 0, 0, 5));
        due("cell(0, 0)", y.cell(0, 0), ((((1 * 2 + 5 + 1) * 3 + 5 + 1) * 4 + 5) + 1) * 5 + 5);
    }

    @Says(promise = 6, value = "0: CELL a gets x + b more")
    static void act0WithTheWholeB() {
        for (int b = 0; b < 16; b++) {
            WarpYard y = one(5, -7, act(0, 0, b, 0));
            due("cell(0, 0), b " + b, y.cell(0, 0), b - 7);
        }
    }

    @Says(promise = 6, value = "1: CELL a becomes CELL b * c + the EVENT's MINUTE")
    static void act1WithEachC() {
        for (int c = -3; c <= 20; c++) {
            WarpYard y = withCells(new int[] {7, 0, 0, 0}, act(1, 1, 0, c));
            due("cell(0, 1), c " + c, y.cell(0, 1), 7 * c + 50);
        }
    }

    @Says(promise = 6, value = "1: CELL a becomes CELL b * c + the EVENT's MINUTE")
    static void act1AtTheFirstAndTheLastMinute() {
        due("cell(0, 0), minute 0", one(0, 1, act(0, 0, 0, 0), act(1, 0, 0, 6)).cell(0, 0), 6);
        due("cell(0, 0), minute 100000", one(100000, 1, act(0, 0, 0, 0), act(1, 0, 0, 6)).cell(0, 0), 100006);
    }

    @Says(promise = 6, value = "FAILS 2 if c is below 1")
    static void act2NotLater() {
        for (int c = -3; c <= 20; c++) {
            WarpYard y = one(50, 1, act(2, 0, 0, c), act(5, 0, 0, 0));
            due("event(0, 6), c " + c, y.event(0, 6), c < 1 ? 2 : 0);
            due("count(1), c " + c, y.count(1), c < 1 ? 1 : 2);
            due("told(0, 6), c " + c, y.told(0, 6), c < 1 ? 0 : 1);
            due("event(1, 1), c " + c, y.event(1, 1), c < 1 ? BAD : 50 + c);
        }
    }

    @Says(promise = 6, value = "FAILS 6 if it is above 100000")
    static void act2TooLate() {
        int[][] cases = {{99999, 1, 0}, {100000, 1, 6}, {99980, 20, 0}, {99981, 20, 6}, {99990, 10, 0}, {99990, 11, 6}};
        for (int[] c : cases) {
            WarpYard y = one(c[0], 1, act(2, 0, 0, c[1]), act(5, 0, 0, 0));
            String with = ", " + c[0] + " + " + c[1];
            due("event(0, 6)" + with, y.event(0, 6), c[2]);
            due("count(1)" + with, y.count(1), c[2] == 0 ? 2 : 1);
            due("told(0, 6)" + with, y.told(0, 6), c[2] == 0 ? 1 : 0);
            due("event(1, 1)" + with, y.event(1, 1), c[2] == 0 ? 100000 : BAD);
        }
    }

    @Says(promise = 6, value = "FAILS 2 if c is below 1; FAILS 6 if it is above 100000")
    static void act2NotLaterAtTheLastMinute() {
        due("event(0, 6), c 0", one(100000, 1, act(2, 0, 0, 0)).event(0, 6), 2);
        due("event(0, 6), c -3", one(100000, 1, act(2, 0, 0, -3)).event(0, 6), 2);
        due("event(0, 6), c -3, minute 0", one(0, 1, act(2, 0, 0, -3)).event(0, 6), 2);
    }

    @Says(promise = 6, value = "PART b modulo the number of PARTS")
    static void act2ToThePartModuloTheirNumber() {
        int[] numbers = {1, 2, 3, 11, 12};
        for (int n : numbers) {
            for (int b = 0; b < 16; b++) {
                WarpYard y = yard(new int[n]);
                acts(y, 0, act(2, 0, b, 1));
                y.start(0, 5, 0);
                y.step(0);
                due("event(1, 0), b " + b + " of " + n + " parts", y.event(1, 0), b % n);
            }
        }
    }

    @Says(promise = 6, value = "an EVENT with x = CELL a is SENT")
    static void act2WithTheCellOfThatMoment() {
        WarpYard y = one(5, MOST, act(2, 0, 0, 1), act(0, 0, 0, 0), act(2, 0, 0, 1), act(0, 0, 1, 0), act(2, 0, 0, 1));
        row("number(1 + _)", i -> y.number(1 + i), 0, MOST, -1, 0);
    }

    @Says(promise = 6, value = "FAILS 1: it has no ROW")
    static void act3WithNoRow() {
        WarpYard y = one(5, 7, act(0, 0, 0, 0), act(3, 0, 0, 0), act(5, 0, 0, 0));
        due("event(0, 6)", y.event(0, 6), 1);
        due("cell(0, 0)", y.cell(0, 0), 7);
        due("told(0, 5)", y.told(0, 5), 0);
        y.start(0, 6, 7);
        y.step(0);
        due("event(1, 6), again", y.event(1, 6), 1);
    }

    @Says(promise = 6, value = "4: the ROW ends")
    static void act3WhereTheRowEnds() {
        for (int size = 1; size <= 8; size++) {
            WarpYard y = yard(0);
            for (int i = 0; i < size; i++) y.tear(0, 70 + i);
            acts(y, 0, act(3, 0, 0, 0));
            for (int i = 0; i < size; i++) {
                y.start(0, 5 + i, 0);
                y.step(0);
                due("event(" + i + ", 6), a row of " + size, y.event(i, 6), 0);
                due("cell(0, 0)", y.cell(0, 0), 70 + i);
            }
            for (int more = 0; more < 2; more++) {
                y.start(0, 20 + more, 0);
                y.step(0);
                due("event(" + (size + more) + ", 6), a row of " + size, y.event(size + more, 6), 4);
                due("cell(0, 0), the last one still", y.cell(0, 0), 69 + size);
                due("told(0, 5)", y.told(0, 5), size);
            }
        }
    }

    @Says(promise = 6, value = "whose place is how many it DREW, which is one more then")
    static void act3InOneEvent() {
        WarpYard y = yard(0);
        for (int i = 0; i < 8; i++) {
            y.tear(0, 60 + i);
            y.rule(0, 3, i, 0, 0);
        }
        y.start(0, 5, 0);
        y.step(0);
        due("event(0, 6)", y.event(0, 6), 0);
        due("told(0, 5)", y.told(0, 5), 8);
        dueCells("eight draws", y, 64, 65, 66, 67);
    }

    @Says(promise = 6, value = "with a, b, c")
    static void actsThatHaveNoUseForBOrC() {
        int[] cells = {20, 30, 40, 50};
        int[] acts = {0, 3, 4, 5, 6, 7};
        for (int kind : acts) {
            for (int c = -3; c <= 20; c++) {
                String first = all(withCells(cells, act(kind, 1, 2, 0), act(5, 0, 0, 0), act(5, 0, 0, 0), act(5, 0, 0, 0)));
                String other = all(withCells(cells, act(kind, 1, 2, c), act(5, 0, 0, 0), act(5, 0, 0, 0), act(5, 0, 0, 0)));
                due("act " + kind + " with c " + c, other, first);
            }
        }
        for (int b = 0; b < 16; b++) {
            for (int kind = 3; kind <= 5; kind += 2) {
                String first = all(withCells(cells, act(kind, 1, 0, 0), act(5, 0, 0, 0), act(5, 0, 0, 0), act(5, 0, 0, 0)));
                String other = all(withCells(cells, act(kind, 1, b, 0), act(5, 0, 0, 0), act(5, 0, 0, 0), act(5, 0, 0, 0)));
                due("act " + kind + " with b " + b, other, first);
            }
        }
    }

    @Says(promise = 6, value = "4: if CELL a is even")
    static void act4EvenOrOdd() {
        int[] even = {0, 2, -2, MOST - 1, LEAST};
        for (int n : even) {
            WarpYard y = one(5, n, act(0, 0, 0, 0), act(4, 0, 1, 0), act(5, 0, 0, 0));
            due("count(5), cell 0 is " + n, y.count(5), 0);
        }
        int[] odd = {1, -1, 3, -3, MOST, LEAST + 1};
        for (int n : odd) {
            WarpYard y = one(5, n, act(0, 0, 0, 0), act(4, 0, 1, 0), act(5, 0, 0, 0));
            due("count(5), cell 0 is " + n, y.count(5), 1);
        }
    }

    @Says(promise = 6, value = "the next b ACTS (b modulo 4) are passed over")
    static void act4ByBModulo4() {
        for (int b = 0; b < 16; b++) {
            WarpYard y = one(5, 1, act(4, 0, b, 0), act(5, 0, 0, 0), act(5, 0, 0, 0), act(5, 0, 0, 0), act(5, 0, 0, 0));
            due("count(5), b " + b, y.count(5), 4 - b % 4);
        }
    }

    @Says(promise = 6, value = "the next b ACTS (b modulo 4) are passed over")
    static void act4BeyondTheLastAct() {
        WarpYard y = one(5, 1, act(5, 0, 0, 0), act(4, 0, 3, 0));
        due("count(5)", y.count(5), 1);
        WarpYard z = one(5, 1, act(5, 0, 0, 0), act(5, 0, 0, 0), act(5, 0, 0, 0), act(5, 0, 0, 0), act(5, 0, 0, 0),
                act(5, 0, 0, 0), act(4, 0, 3, 0), act(5, 0, 0, 0));
        due("count(5), eight acts", z.count(5), 6);
        due("event(0, 6)", z.event(0, 6), 0);
        WarpYard w = one(5, 1, act(5, 0, 0, 0), act(5, 0, 0, 0), act(5, 0, 0, 0), act(5, 0, 0, 0), act(5, 0, 0, 0),
                act(5, 0, 0, 0), act(5, 0, 0, 0), act(4, 0, 3, 0));
        due("count(5), the eighth act", w.count(5), 7);
    }

    @Says(promise = 6, value = "the next b ACTS (b modulo 4) are passed over")
    static void act4PassesOverWhatWouldFail() {
        WarpYard y = one(5, 1, act(4, 0, 3, 0), act(3, 0, 0, 0), act(6, 0, 0, 0), act(4, 0, 1, 0), act(5, 0, 0, 0));
        due("event(0, 6)", y.event(0, 6), 0);
        due("count(5)", y.count(5), 1);
    }

    @Says(promise = 21, value = "5: CELL a is PRINTED")
    static void act5EightTimes() {
        WarpYard y = one(5, 1, act(5, 0, 0, 0), act(5, 0, 0, 0), act(5, 0, 0, 0), act(5, 0, 0, 0),
                act(5, 0, 0, 0), act(5, 0, 0, 0), act(5, 0, 0, 0), act(5, 0, 0, 0));
        due("count(5)", y.count(5), 8);
        due("out(7, 1)", y.out(7, 1), 5);
        due("out(8, 1)", y.out(8, 1), NONE);
    }

    @Says(promise = 6, value = "cut towards 0")
    static void act6CutTowards0() {
        int[][] cases = {{7, 2, 3}, {-7, 2, -3}, {7, -2, -3}, {-7, -2, 3}, {1, 2, 0}, {-1, 2, 0}, {0, 5, 0},
            {MOST, -1, -MOST}, {LEAST, 1, LEAST}, {LEAST, 2, -(1 << 30)}, {LEAST + 1, -1, MOST}, {LEAST, LEAST, 1},
            {MOST, LEAST, 0}};
        for (int[] c : cases) {
            WarpYard y = withCells(new int[] {c[0], c[1], 0, 0}, act(6, 0, 1, 0));
            due("cell(0, 0), " + c[0] + " / " + c[1], y.cell(0, 0), c[2]);
            due("cell(0, 1)", y.cell(0, 1), c[1]);
            due("event(0, 6)", y.event(0, 6), 0);
        }
    }

    @Says(promise = 6, value = "the least by -1: itself")
    static void act6TheLeastByMinus1() {
        WarpYard y = withCells(new int[] {LEAST, -1, 0, 0}, act(6, 0, 1, 0), act(5, 0, 0, 0));
        due("cell(0, 0)", y.cell(0, 0), LEAST);
        due("event(0, 6)", y.event(0, 6), 0);
        due("printed(0)", y.printed(0), LEAST);
    }

    @Says(promise = 6, value = "FAILS 3: CELL b is 0")
    static void act6By0() {
        int[] numbers = {LEAST, -1, 0, 1, MOST};
        for (int n : numbers) {
            WarpYard y = withCells(new int[] {n, 0, 1, -1}, act(6, 0, 1, 0), act(5, 0, 0, 0));
            due("event(0, 6), " + n + " / 0", y.event(0, 6), 3);
            due("cell(0, 0)", y.cell(0, 0), n);
            WarpYard z = withCells(new int[] {n, 0, 1, -1}, act(6, 0, 2, 0), act(6, 0, 3, 0));
            due("event(0, 6), " + n + " / 1 / -1", z.event(0, 6), 0);
        }
    }

    @Says(promise = 6, value = "n is CELL b modulo 16 less 8: CELL a becomes n (FAILS 5: n is below 0)")
    static void act7OfEachNumber() {
        int[] from = {-33, -16, 0, 16, MOST - 15, LEAST};
        for (int first : from) {
            for (int i = 0; i < 16; i++) {
                int cell = first + i;
                int n = (cell & 15) - 8;
                WarpYard y = withCells(new int[] {cell, 77, 0, 0}, act(7, 1, 0, 0), act(5, 0, 0, 0));
                due("event(0, 6), cell 0 is " + cell, y.event(0, 6), n < 0 ? 5 : 0);
                due("cell(0, 1), cell 0 is " + cell, y.cell(0, 1), n < 0 ? 77 : n);
                due("count(5)", y.count(5), n < 0 ? 0 : 1);
            }
        }
    }

    @Says(promise = 6, value = "One that FAILS ends there; what its ACTS did till then stays, and it is DONE, too")
    static void failingInEachWay() {
        int[][] failing = {act(3, 0, 0, 0), act(2, 0, 0, 0), act(6, 0, 1, 0), act(3, 3, 0, 0), act(7, 0, 1, 0), act(2, 0, 0, 20)};
        for (int how = 1; how <= 6; how++) {
            WarpYard y = yard(0);
            if (how == 4) y.tear(0, 70);
            acts(y, 0, act(0, 0, 0, 0), act(5, 0, 0, 0), act(2, 0, 0, 1));
            acts(y, 0, how == 4 ? act(3, 2, 0, 0) : act(0, 2, 0, 0), failing[how - 1]);
            acts(y, 0, act(0, 0, 0, 0), act(5, 0, 0, 0), act(2, 0, 0, 1));
            y.start(0, 99985, 3);
            due("step(0), it fails " + how, y.step(0), 0);
            due("event(0, 6)", y.event(0, 6), how);
            due("event(0, 5)", y.event(0, 5), 2);
            dueCells("it fails " + how, y, 3, 0, how == 4 ? 70 : 3, 0);
            due("count(5)", y.count(5), 1);
            due("count(7)", y.count(7), 1);
            row("told(0, _)", what -> y.told(0, what), 0, 1, 0, 1, 1, how == 4 ? 1 : 0, 1, 0);
            due("event(1, 5), what it sent came", y.event(1, 5), 0);
        }
    }

    @Says(promise = 6, value = "One that FAILS ends there")
    static void failingEndsThatEventAlone() {
        WarpYard y = yard(0);
        acts(y, 0, act(0, 0, 0, 0), act(4, 0, 1, 0), act(3, 0, 0, 0), act(5, 0, 0, 0));
        y.start(0, 10, 1);
        y.start(0, 11, 1);
        y.start(0, 12, 2);
        due("run(0, 9)", y.run(0, 9), 3);
        row("event(_, 6)", e -> y.event(e, 6), 1, 0, 0);
        due("count(5)", y.count(5), 2);
        due("count(7)", y.count(7), 1);
    }

    // ---- keys

    @Says(promise = 17, value = "of one by start(): the MINUTE, -1, -1, how many starts there were before it")
    static void keyOfAStart() {
        WarpYard y = yard(0, 0);
        acts(y, 0, act(2, 0, 1, 1));
        y.start(0, 0, 0);
        y.step(0);              // event 1: it is no start
        y.start(1, 2, 0);
        row("event(0, _)", what -> y.event(0, what), 0, 0, -1, -1, 0);
        row("event(2, _)", what -> y.event(2, what), 1, 2, -1, -1, 1);
    }

    @Says(promise = 17, value = "then its sender's MINUTE (that of the EVENT in whose act it was sent), then its sender, "
            + "then how many EVENTS the sender had SENT before it")
    static void keyOfOneSent() {
        WarpYard y = yard(0, 0);
        acts(y, 1, act(2, 0, 0, 3), act(2, 0, 1, 20), act(2, 0, 0, 1));
        y.start(1, 0, 0);
        y.start(1, 7, 0);
        y.run(0, 2);            // events 2 .. 4, and of them 4, at part 0
        y.run(0, 2);            // event 2, then the second start: events 5 .. 7
        row("event(2, _)", what -> y.event(2, what), 0, 3, 0, 1, 0);
        row("event(3, _)", what -> y.event(3, what), 1, 20, 0, 1, 1);
        row("event(4, _)", what -> y.event(4, what), 0, 1, 0, 1, 2);
        row("event(5, _)", what -> y.event(5, what), 0, 10, 7, 1, 3);
        row("event(7, _)", what -> y.event(7, what), 0, 8, 7, 1, 5);
    }

    @Says(promise = 17, value = "how many EVENTS the sender had SENT before it")
    static void keyCountGoesBack() {
        WarpYard y = three();
        y.start(0, 20, 0);
        y.start(0, 30, 0);
        y.run(0, 2);            // events 3 (count 0) and 4 (count 1)
        y.start(0, 25, 0);
        y.run(0, 2);            // events 6 and 7, event 4 has a shadow
        row("event(_, 4)", e -> y.event(e, 4), 0, 1, 2, 0, 1, 3, 1, 2);
    }

    /** The event itself, and not its shadow, comes. */
    private static void deliverEvent(WarpYard y, int e) {
        for (int i = 0; i < y.count(2); i++) {
            if (y.way(i, 0) == e && y.way(i, 1) == 0) {
                y.deliver(i);
                return;
            }
        }
        due("event " + e + " is on the way", 0, 1);
    }

    /** Two events are on the way to part 2 on line 3: in which order they are done, whichever comes first. */
    private static void dueOrder(Supplier<WarpYard> world, int lower, int higher) {
        WarpYard both = world.get();
        deliverEvent(both, higher);
        deliverEvent(both, lower);
        due("step(3), both are there", both.step(3), lower);
        due("step(3)", both.step(3), higher);

        WarpYard back = world.get();
        deliverEvent(back, higher);
        due("step(3), the higher one is there", back.step(3), higher);
        deliverEvent(back, lower);
        due("told(2, 2), the lower one came behind", back.told(2, 2), 1);
        due("step(3)", back.step(3), lower);
        due("step(3)", back.step(3), higher);

        WarpYard on = world.get();
        deliverEvent(on, lower);
        due("step(3), the lower one is there", on.step(3), lower);
        deliverEvent(on, higher);
        due("told(2, 2), the higher one came behind", on.told(2, 2), 0);
        due("step(3)", on.step(3), higher);
    }

    /** Part 0 at a minute, then part 1 at a minute, send to part 2: events 3 and 4. */
    private static WarpYard senders(int minute0, int c0, int minute1, int c1) {
        WarpYard y = yard(0, 1, 3, 2);
        acts(y, 0, act(2, 0, 2, c0));
        acts(y, 1, act(2, 0, 2, c1));
        y.start(3, 0, 0);
        y.start(0, minute0, 0);
        y.start(1, minute1, 0);
        y.step(0);
        y.step(1);
        return y;
    }

    @Says(promise = 6, value = "KEYS are compared so: the first that differs")
    static void keysByTheMinute() {
        dueOrder(() -> senders(10, 10, 15, 4), 4, 3);       // 19, 15, 1, 0 and 20, 10, 0, 0
    }

    @Says(promise = 6, value = "KEYS are compared so: the first that differs")
    static void keysByTheSendersMinute() {
        dueOrder(() -> senders(11, 9, 10, 10), 4, 3);       // 20, 10, 1, 0 and 20, 11, 0, 0
    }

    /** Part 0 sends two, of which the second goes to part 2, part 1 ahead of it one. */
    private static WarpYard sendersOfOneMinute() {
        WarpYard y = yard(0, 1, 3);
        acts(y, 0, act(2, 0, 0, 20), act(2, 0, 2, 10));
        acts(y, 1, act(2, 0, 2, 10));
        y.start(1, 9, 0);
        y.start(0, 10, 0);
        y.start(1, 10, 0);
        y.run(1, 2);            // events 3 (minute 19) and 4 (20, 10, 1, 1)
        y.step(0);              // events 5 (to itself) and 6 (20, 10, 0, 1)
        return y;
    }

    @Says(promise = 6, value = "KEYS are compared so: the first that differs")
    static void keysByTheSender() {
        dueOrder(TermsEdgesTest::sendersOfOneMinute, 6, 4);
    }

    /** Part 0 sends events 2 and 3, and with their keys events 5 and 6 once more. */
    private static WarpYard twoTwice() {
        WarpYard y = yard(0, 1, 3);
        acts(y, 0, act(1, 1, 2, 0), act(4, 1, 2, 0), act(2, 0, 2, 5), act(2, 0, 2, 5));
        y.start(1, 1, 0);
        y.start(0, 21, 0);
        y.step(0);
        y.start(0, 10, 0);
        y.run(0, 2);
        return y;
    }

    @Says(promise = 6, value = "KEYS are compared so: the first that differs")
    static void keysByTheCount() {
        dueOrder(TermsEdgesTest::twoTwice, 2, 3);
        dueOrder(TermsEdgesTest::twoTwice, 5, 3);
    }

    @Says(promise = 6, value = "then the one with the lower number is the lower one wherever EVENTS are compared")
    static void keysByTheNumber() {
        dueOrder(TermsEdgesTest::twoTwice, 2, 5);
        dueOrder(TermsEdgesTest::twoTwice, 3, 6);
    }

    @Says(promise = 6, value = "then the one with the lower number is the lower one wherever EVENTS are compared")
    static void shadowOfTheLowerOfTwo() {
        WarpYard y = twins();
        y.deliver(0);
        y.deliver(1);
        y.run(1, 2);            // events 2 and 4, which have one key
        y.deliver(0);           // the shadow of event 2
        due("told(1, 2), both", y.told(1, 2), 2);
        due("event(2, 5)", y.event(2, 5), 4);
        due("event(4, 5)", y.event(4, 5), 0);
    }

    @Says(promise = 6, value = "then the one with the lower number is the lower one wherever EVENTS are compared")
    static void shadowOfTheHigherOfTwo() {
        WarpYard y = twins();
        y.deliver(0);
        y.deliver(1);
        y.run(1, 2);            // events 2 and 4, which have one key
        y.start(0, 5, 0);       // a shadow of event 4, behind that of event 2
        row("way(_, 0)", i -> y.way(i, 0), 2, 4, NONE);
        y.deliver(1);
        due("told(1, 2), the higher one alone", y.told(1, 2), 1);
        due("event(2, 5)", y.event(2, 5), 1);
        due("event(4, 5)", y.event(4, 5), 4);
    }

    @Says(promise = 15, value = "but for THE FLOOR")
    static void twoOfOneKeyAtTheFloor() {
        WarpYard y = twins();
        y.deliver(0);
        y.deliver(1);
        y.step(1);              // event 2; event 4 is there, the shadow of event 2 on the way
        y.step(2);
        row("floor(_)", y::floor, 26, 21, 0, 0);
        due("event(2, 5), the lower number, not settled", y.event(2, 5), 1);
        due("settled(1, 0)", y.settled(1, 0), 0);
        y.step(1);
        due("event(2, 5)", y.event(2, 5), 1);
        due("event(4, 5), the higher number, not settled", y.event(4, 5), 1);
        due("count(6)", y.count(6), 3);
        due("same()", y.same(), 1);
        y.deliver(0);
        y.step(1);
        due("event(4, 5)", y.event(4, 5), 2);
        due("same()", y.same(), 1);
    }

    @Says(promise = 5, value = "of one by start(): the MINUTE, -1, -1")
    static void startIsBelowOneSentOfItsMinute() {
        WarpYard y = yard(0, 1);
        acts(y, 0, act(2, 0, 0, 20));
        y.start(0, 0, 0);
        y.start(1, 1, 0);
        y.run(0, 2);            // event 0, then event 2: 20, 0, 0, 0
        y.start(0, 21, 0);
        due("told(0, 2)", y.told(0, 2), 0);
        y.start(0, 20, 0);      // event 5: 20, -1, -1, 3
        due("told(0, 2)", y.told(0, 2), 1);
        due("step(0)", y.step(0), 5);
        due("step(0)", y.step(0), 2);
    }

    // ---- sending

    @Says(promise = 6, value = "SENT to a PART of the same LINE an EVENT COMES at once, behind the ACTS")
    static void sentOnOneLine() {
        WarpYard y = yard(2, 2, 1);
        acts(y, 0, act(2, 0, 0, 1), act(2, 0, 1, 1), act(2, 0, 2, 1));
        y.start(0, 5, 0);
        y.step(2);
        row("event(1 + _, 5)", i -> y.event(1 + i, 5), 0, 0, 3);
        row("way(_, 0)", i -> y.way(i, 0), 3, NONE);
    }

    /** Parts 0 to 2 on line 0; parts 1 and 2 did an event at 50, which sent events 3 and 4 to part 3. */
    private static WarpYard neighbours(int[]... actsOf0) {
        WarpYard y = yard(0, 0, 0, 1, 2);
        acts(y, 0, actsOf0);
        acts(y, 1, act(2, 0, 3, 9));
        acts(y, 2, act(2, 0, 3, 9));
        y.start(4, 1, 0);
        y.start(1, 50, 0);
        y.start(2, 50, 0);
        y.run(0, 2);
        y.start(0, 10, 0);
        y.step(0);              // events 6 and on
        return y;
    }

    @Says(promise = 6, value = "COMES at once, behind the ACTS")
    static void sentComesBehindTheActs() {
        WarpYard y = neighbours(act(2, 0, 1, 5), act(2, 0, 3, 5));
        row("way(_, 0)", i -> y.way(i, 0), 3, 4, 7, 3, NONE);
        row("way(_, 1)", i -> y.way(i, 1), 0, 0, 0, 1, NONE);
        due("told(1, 2)", y.told(1, 2), 1);
    }

    @Says(promise = 6, value = "COMES at once, behind the ACTS")
    static void sentComesBehindActsThatFail() {
        WarpYard y = neighbours(act(2, 0, 1, 5), act(2, 0, 3, 5), act(6, 0, 0, 0), act(2, 0, 2, 5));
        row("way(_, 0)", i -> y.way(i, 0), 3, 4, 7, 3, NONE);
        due("told(1, 2)", y.told(1, 2), 1);
        due("told(2, 2), it was not sent", y.told(2, 2), 0);
    }

    @Says(promise = 6, value = "(in the order in which they were SENT)")
    static void sentComesInTheOrderOfSending() {
        WarpYard y = neighbours(act(2, 0, 1, 5), act(2, 0, 2, 4));
        row("way(_, 0)", i -> y.way(i, 0), 3, 4, 3, 4, NONE);
        WarpYard z = neighbours(act(2, 0, 2, 5), act(2, 0, 1, 4));
        row("way(_, 0)", i -> z.way(i, 0), 3, 4, 4, 3, NONE);
    }

    @Says(promise = 19, value = "else it is ON THE WAY (behind all that are)")
    static void sentBehindAllOnTheWay() {
        WarpYard y = three();
        y.start(0, 30, 0);
        y.start(0, 10, 0);
        y.start(0, 20, 0);
        y.run(0, 3);
        row("way(_, 0)", i -> y.way(i, 0), 4, 5, 6, NONE);
        y.deliver(1);
        y.start(0, 40, 0);
        y.step(0);
        row("way(_, 0)", i -> y.way(i, 0), 4, 6, 8, NONE);
    }

    @Says(promise = 10, value = "Lines are those of that moment")
    static void linesOfTheMomentOfSending() {
        WarpYard y = three();
        y.start(0, 10, 0);
        y.start(0, 20, 0);
        y.start(0, 30, 0);
        y.step(0);              // event 4
        y.move(1, 0);
        due("event(4, 5), it stays on the way", y.event(4, 5), 3);
        y.step(0);              // event 5
        due("event(5, 5), it came at once", y.event(5, 5), 0);
        y.move(0, 1);
        y.step(1);              // event 6
        due("event(6, 5)", y.event(6, 5), 3);
        y.deliver(0);
        due("event(4, 5)", y.event(4, 5), 0);
    }

    @Says(promise = 10, value = "Lines are those of that moment")
    static void linesOfTheMomentOfGoingBack() {
        WarpYard y = three();
        y.start(0, 20, 0);
        y.step(0);              // event 2
        y.deliver(0);
        y.move(0, 1);
        y.start(0, 10, 0);
        due("count(2), the shadow came at once", y.count(2), 0);
        due("event(2, 5)", y.event(2, 5), 4);
        WarpYard z = three();
        z.move(1, 0);
        z.start(0, 20, 0);
        z.step(0);              // event 2, at once
        z.move(1, 3);
        z.start(0, 10, 0);
        due("way(0, 1), the shadow is on the way", z.way(0, 1), 1);
        due("event(2, 5)", z.event(2, 5), 0);
    }

    // ---- what comes

    @Says(promise = 8, value = "if a SHADOW of it waits there, both MEET and are gone")
    static void eventMeetsItsShadow() {
        WarpYard y = three();
        y.start(0, 20, 1);
        y.step(0);              // event 2, at 25
        y.start(1, 30, 0);
        y.step(1);
        y.start(0, 10, 1);
        y.deliver(1);
        due("told(1, 7)", y.told(1, 7), 1);
        due("deliver(0)", y.deliver(0), 1);
        due("event(2, 5)", y.event(2, 5), 4);
        row("told(1, _), and none goes back", what -> y.told(1, what), 1, 1, 0, 1, 0, 0, 0, 0);
        due("count(4)", y.count(4), 1);
    }

    @Says(promise = 8, value = "if a SHADOW of it waits there")
    static void eventMeetsNoOthersShadow() {
        WarpYard y = twins();
        y.deliver(1);           // the shadow of event 2 waits
        y.deliver(1);
        due("event(4, 5), of the same key", y.event(4, 5), 0);
        due("told(1, 7)", y.told(1, 7), 1);
        y.deliver(0);
        due("event(2, 5)", y.event(2, 5), 4);
        due("told(1, 7)", y.told(1, 7), 0);
    }

    /** Part 0 did events at 10, 20 and 30 with x 1, 2, 4; each draws, sends to part 2, prints and fails. */
    private static WarpYard ladder() {
        WarpYard y = yard(0, 1, 2);
        for (int i = 0; i < 8; i++) y.tear(0, 90 + i);
        acts(y, 0, act(0, 0, 0, 0), act(3, 1, 0, 0), act(2, 0, 2, 9), act(2, 1, 2, 8), act(5, 0, 0, 0), act(6, 0, 3, 0));
        y.start(1, 1, 0);
        for (int i = 0; i < 3; i++) y.start(0, 10 + 10 * i, 1 << i);
        y.run(0, 3);            // events 4 and 5, 6 and 7, 8 and 9
        return y;
    }

    @Says(promise = 5, value = "if an EVENT with a higher KEY is DONE there, the PART GOES BACK: all its DONE EVENTS with higher KEYS")
    static void goingBackToEachPlace() {
        int[] minutes = {9, 10, 19, 20, 21, 29, 30, 31};
        int[] back = {3, 2, 2, 1, 1, 1, 0, 0};
        for (int i = 0; i < minutes.length; i++) {
            WarpYard y = ladder();
            int stay = 3 - back[i];
            int sum = (1 << stay) - 1;
            y.start(0, minutes[i], 64);
            row("told(0, _), one at " + minutes[i] + " came", what -> y.told(0, what),
                    0, 3, 3 - stay, stay, 4 - stay, stay, 2 * stay, 0);
            row("cell(0, _)", c -> y.cell(0, c), sum, stay == 0 ? 0 : 89 + stay, 0, 0);
            for (int e = 1; e <= 3; e++) {
                due("event(" + e + ", 5)", y.event(e, 5), e <= stay ? 1 : 0);
                due("event(" + e + ", 6)", y.event(e, 6), e <= stay ? 3 : 0);
            }
            due("count(3)", y.count(3), 2 * back[i]);
        }
    }

    @Says(promise = 5, value = "the PART GOES BACK")
    static void goingBackOfThatPartAlone() {
        WarpYard y = yard(0, 0, 1);
        y.start(2, 1, 0);
        y.start(0, 20, 0);
        y.start(1, 20, 0);
        y.run(0, 2);
        y.start(0, 10, 0);
        due("told(0, 2)", y.told(0, 2), 1);
        due("told(1, 2)", y.told(1, 2), 0);
        due("event(2, 5)", y.event(2, 5), 1);
    }

    @Says(promise = 21, value = "what it PRINTED and how it FAILED is not so")
    static void goingBackTakesPrintsAndFailures() {
        WarpYard y = ladder();
        y.start(0, 15, 0);
        y.deliverAll();
        y.run(2, 9);
        y.step(1);
        row("floor(_), the start at 15", y::floor, 15, -1, -1, 4);
        row("printed(_)", y::printed, 1, 0);
        due("count(5)", y.count(5), 1);
        due("count(7)", y.count(7), 1);
        y.run(0, 3);
        y.deliverAll();
        y.run(2, 9);
        due("floor(0)", y.floor(0), -9);
        row("printed(_)", y::printed, 1, 1, 3, 7, 0);
        due("count(5)", y.count(5), 4);
        due("count(7)", y.count(7), 4);
    }

    @Says(promise = 21, value = "what it PRINTED and how it FAILED is not so")
    static void goingBackOfOneThatIsGone() {
        WarpYard y = yard(0, 1);
        acts(y, 0, act(0, 0, 0, 0), act(4, 0, 1, 0), act(2, 0, 1, 5));
        acts(y, 1, act(5, 0, 0, 0), act(3, 0, 0, 0));
        y.start(1, 1, 0);
        y.start(0, 20, 1);
        y.step(0);              // event 2
        y.start(0, 10, 1);
        y.run(0, 2);            // event 4 at minute 15, none at 25 any more
        y.deliver(0);
        y.run(1, 9);            // the start, and event 2, which prints and fails
        due("told(1, 3)", y.told(1, 3), 2);
        y.deliverAll();
        y.run(1, 9);
        due("event(2, 5)", y.event(2, 5), 4);
        due("floor(0)", y.floor(0), -9);
        due("count(5), of the start and of event 4", y.count(5), 2);
        due("count(7)", y.count(7), 2);
    }

    @Says(promise = 19, value = "from the one SENT last on, a SHADOW is sent")
    static void shadowsFromTheLastSentOn() {
        WarpYard y = ladder();
        y.start(0, 15, 0);
        row("way(_, 0)", i -> y.way(i, 0), 4, 5, 6, 7, 8, 9, 9, 8, 7, 6, NONE);
        row("way(_, 1)", i -> y.way(i, 1), 0, 0, 0, 0, 0, 0, 1, 1, 1, 1, NONE);
    }

    @Says(promise = 20, value = "a SHADOW is sent")
    static void shadowOnceForEachSent() {
        WarpYard y = ladder();
        y.start(0, 25, 0);
        due("count(3)", y.count(3), 2);
        y.start(0, 15, 0);
        due("count(3), of event 2 alone", y.count(3), 4);
        y.start(0, 12, 0);
        due("count(3), of none", y.count(3), 4);
    }

    @Says(promise = 8, value = "the EVENT is there and not DONE: both MEET and are gone")
    static void shadowOfOneNotDone() {
        WarpYard y = three();
        y.start(0, 20, 0);
        y.step(0);              // event 2, at 25
        y.start(1, 10, 3);
        y.start(1, 40, 5);
        y.step(1);              // the one at 10
        y.deliver(0);
        y.start(0, 15, 0);
        due("deliver(0)", y.deliver(0), 2);
        due("event(2, 5)", y.event(2, 5), 4);
        row("told(1, _)", what -> y.told(1, what), 1, 1, 0, 1, 1, 0, 0, 0);
        due("cell(1, 0)", y.cell(1, 0), 3);
        due("count(4)", y.count(4), 1);
    }

    /** Part 1 did starts at 22 and 50 and event 2 (minute 25), each sent to part 3; event 2 has a shadow. */
    private static WarpYard shadowOfOneDone() {
        WarpYard y = yard(0, 1, 2, 3);
        acts(y, 0, act(0, 0, 0, 0), act(2, 0, 1, 5));
        acts(y, 1, act(0, 0, 0, 0), act(2, 0, 3, 1), act(2, 0, 3, 2));
        y.start(2, 1, 0);
        y.start(0, 20, 2);
        y.step(0);
        y.deliver(0);
        y.start(1, 22, 1);
        y.start(1, 50, 4);
        y.run(1, 3);            // events 5 and 6 by event 3, 7 and 8 by event 2, 9 and 10 by event 4
        y.deliverAll();
        y.start(0, 10, 0);
        return y;
    }

    @Says(promise = 8, value = "It is DONE: the PART GOES BACK as told, with all whose KEYS are higher, and itself")
    static void shadowOfOneDoneTakesBackFromItOn() {
        WarpYard y = shadowOfOneDone();
        due("cell(1, 0)", y.cell(1, 0), 7);
        due("deliver(0)", y.deliver(0), 2);
        due("cell(1, 0)", y.cell(1, 0), 1);
        row("event(2 + _, 5)", i -> y.event(2 + i, 5), 4, 1, 0);
        row("told(1, _)", what -> y.told(1, what), 1, 3, 2, 1, 1, 0, 2, 0);
        due("count(4)", y.count(4), 1);
    }

    @Says(promise = 8, value = "then SHADOWS are sent for what those TAKEN BACK had sent")
    static void shadowOfOneDoneSendsShadows() {
        WarpYard y = shadowOfOneDone();
        y.deliver(0);
        row("way(_, 0)", i -> y.way(i, 0), 10, 9, 8, 7, NONE);
        row("way(_, 1)", i -> y.way(i, 1), 1, 1, 1, 1, NONE);
        due("count(3)", y.count(3), 5);
    }

    @Says(promise = 16, value = "It has not come: the SHADOW waits there")
    static void shadowOfOneNotCome() {
        WarpYard y = three();
        y.start(0, 20, 0);
        y.step(0);
        y.start(1, 40, 5);
        y.step(1);
        y.start(0, 10, 0);
        due("deliver(1)", y.deliver(1), 2);
        row("told(1, _), none goes back", what -> y.told(1, what), 1, 1, 0, 1, 0, 0, 0, 1);
        due("event(2, 5)", y.event(2, 5), 3);
        due("count(4)", y.count(4), 0);
        due("count(2)", y.count(2), 1);
    }

    /**
     * Part 0 takes back what it sent to parts 1 and 2, all on line 0: the shadow that part 1 sends
     * to part 3 then comes behind that to part 2. Parts 2 and 3 tell of it by shadows to part 5.
     */
    @Says(promise = 5, value = "all that is to come is worked off in the order in which it was sent")
    static void turnsOfShadows() {
        WarpYard y = yard(0, 0, 0, 0, 2, 1);
        acts(y, 0, act(2, 0, 2, 6), act(2, 0, 1, 5));
        acts(y, 1, act(2, 0, 3, 3));
        acts(y, 2, act(2, 0, 5, 1));
        acts(y, 3, act(2, 0, 5, 1));
        y.start(4, 1, 0);
        y.start(0, 10, 0);
        y.run(0, 9);            // events 2 and 3 by 1, 4 (to part 3) by 3, 5 by 2, 6 by 4
        row("way(_, 0)", i -> y.way(i, 0), 5, 6, NONE);
        y.start(0, 5, 0);
        row("way(_, 0)", i -> y.way(i, 0), 5, 6, 5, 6, NONE);
        row("told(_, 2)", p -> y.told(p, 2), 1, 1, 1, 1, 0, 0);
        due("count(4)", y.count(4), 3);
    }

    /** The same with events: part 0 sends to parts 1 and 2, which did one at 50, and part 1 sent to part 3. */
    @Says(promise = 6, value = "What COMES at once, while something else comes, has its turn behind that")
    static void turnsOfEvents() {
        WarpYard y = yard(0, 0, 0, 0, 2, 1);
        acts(y, 0, act(2, 0, 1, 5), act(2, 0, 2, 5));
        acts(y, 1, act(2, 0, 3, 3));
        acts(y, 2, act(2, 0, 5, 1));
        acts(y, 3, act(2, 0, 5, 1));
        y.start(4, 1, 0);
        y.start(1, 50, 0);
        y.start(2, 50, 0);
        y.run(0, 9);            // event 3 (to part 3) by 1, 4 by 2, 5 by 3
        row("way(_, 0)", i -> y.way(i, 0), 4, 5, NONE);
        y.start(0, 10, 0);
        y.step(0);
        row("way(_, 0)", i -> y.way(i, 0), 4, 5, 4, 5, NONE);
        row("told(_, 2)", p -> y.told(p, 2), 0, 1, 1, 1, 0, 0);
    }

    /** Of part 1's three shadows the middle one comes at once, and has its turn behind the third. */
    @Says(promise = 5, value = "What COMES at once, while something else comes, has its turn behind that")
    static void turnsBehindTheGoingBack() {
        WarpYard y = yard(1, 0, 0, 2);
        acts(y, 1, act(2, 0, 3, 9), act(2, 0, 2, 4), act(2, 0, 3, 8));
        acts(y, 2, act(2, 0, 3, 2));
        y.start(0, 1, 0);
        y.start(1, 10, 0);
        y.run(0, 2);            // events 2, 3 (to part 2) and 4 by 1, 5 by 3
        y.deliverAll();
        y.start(1, 5, 0);
        row("way(_, 0)", i -> y.way(i, 0), 4, 2, 5, NONE);
    }

    // ---- the floor

    @Says(promise = 13, value = "the least KEY of all EVENTS that are there and not DONE")
    static void floorOfThoseThere() {
        WarpYard y = yard(0, 1, 2);
        y.start(0, 10, 0);
        y.start(1, 30, 0);
        y.start(2, 20, 0);
        row("floor(_)", y::floor, 10, -1, -1, 0);
        y.step(0);
        row("floor(_)", y::floor, 20, -1, -1, 2);
        y.step(2);
        row("floor(_)", y::floor, 30, -1, -1, 1);
    }

    @Says(promise = 13, value = "of those ON THE WAY")
    static void floorOfThoseOnTheWay() {
        WarpYard y = three();
        y.start(0, 20, 0);
        y.start(0, 40, 0);
        y.step(0);
        y.step(2);
        row("floor(_), on the way", y::floor, 25, 20, 0, 0);
        y.deliver(0);
        row("floor(_), there", y::floor, 25, 20, 0, 0);
        y.step(1);
        row("floor(_), done", y::floor, 40, -1, -1, 2);
    }

    @Says(promise = 13, value = "and of the EVENTS whose SHADOWS are ON THE WAY")
    static void floorOfShadowsOnTheWay() {
        WarpYard y = shadowAlone();
        row("floor(_)", y::floor, 26, 21, 0, 0);
        y.start(2, 90, 0);
        row("floor(_)", y::floor, 26, 21, 0, 0);
        y.deliver(0);
        row("floor(_), they met", y::floor, 90, -1, -1, 3);
    }

    @Says(promise = 17, value = "An EVENT that is DONE is SETTLED when its KEY is below THE FLOOR (not the same), or there is none")
    static void settledBelowTheFloorAlone() {
        WarpYard y = yard(0, 1);
        y.start(1, 9, 0);
        y.start(0, 10, 0);      // 10, -1, -1, 1
        y.start(1, 10, 0);      // 10, -1, -1, 2: the floor to come
        y.start(0, 10, 0);      // 10, -1, -1, 3
        y.start(0, 11, 0);
        y.run(0, 3);
        row("event(_, 5), the floor is below all", e -> y.event(e, 5), 0, 1, 0, 1, 1);
        y.step(1);
        row("event(_, 5), the floor is among them", e -> y.event(e, 5), 2, 2, 0, 1, 1);
        y.step(1);
        row("event(_, 5), there is none", e -> y.event(e, 5), 2, 2, 2, 2, 2);
    }

    @Says(promise = 17, value = "(not the same)")
    static void settledNotAtItsOwnShadow() {
        WarpYard y = shadowAlone();
        row("event(_, 5)", e -> y.event(e, 5), 2, 2, 1, 2, 2);
        due("count(6)", y.count(6), 4);
    }

    // ---- how long an object is used

    @Says(promise = 9, value = "An object is used for at most 512 calls after it has been made")
    static void the512thCall() {
        WarpYard y = three();   // eight calls
        y.start(0, 10, 7);
        y.step(0);
        for (int call = 11; call < 511; call++) due("same()", y.same(), 1);
        due("deliverAll(), the 511th", y.deliverAll(), 1);
        due("step(1), the 512th", y.step(1), 2);
    }
}
