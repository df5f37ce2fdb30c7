import java.util.ArrayList;
import java.util.List;
import java.util.function.Supplier;
import java.util.function.ToIntFunction;

/** One test for each sentence of the document's "Terms", and of what stands before them, that names a boundary case. */
public final class TermsTest {
    private static final int MIN = Integer.MIN_VALUE;
    private static final int MAX = Integer.MAX_VALUE;

    // Beside the nearest wrong numbers those that a lost sign, a narrower type or a wrap-around would let through.
    private static final int[] BAD_VIEWS = {-1, 48, -2, -47, -48, 49, 64, 256, 65536, MIN, MIN + 1, MAX};
    private static final int[] BAD_PLACES = {-1, 192, -2, -191, -192, 193, 256, 65536, MIN, MIN + 1, MAX};
    private static final int[] BAD_MEASURES = {-1001, 1001, -1002, 1002, 65536, MIN, MIN + 1000, MAX};

    private static final int[][] A_SEEN = {{0, 1, 2, 3}, {0, 0, 1, 1}, {0, 0, 0, 0}};
    private static final int[][] B_SEEN = {
        {0, 1, 2, 3, 4, 5}, {0, 0, 1, 1, 2, 2}, {0, 0, 0, 1, 1, 1}, {0, 0, 0, 0, 0, 0}};
    private static final int[][] C_SEEN = {
        {0, 1, 2, 3, 4, 5, 6, 7}, {0, 0, 1, 1, 2, 2, 3, 3}, {0, 0, 0, 0, 1, 1, 1, 1}, {0, 0, 0, 0, 0, 0, 0, 0}};

    private record Call(String text, ToIntFunction<OlapCubes> made) {
    }

    private record Start(String text, Supplier<OlapCubes> made) {
    }

    private static int wrong = 0;
    private static String sentence = "";

    public static void main(String[] args) {
        test("an object is used for at most 512 calls", TermsTest::lastCall);
        test("a list of at most 40 facts", TermsTest::mostFacts);
        test("numbered 0, 1, 2, .. in the order in which they are put in", TermsTest::numbers);
        test("a in 0 .. 3, b in 0 .. 5, c in 0 .. 7, written as 48 * a + 8 * b + c", TermsTest::coordinates);
        test("a place 0 .. 191", TermsTest::places);
        test("a measure -1000 .. 1000", TermsTest::measures);
        test("a at level 0 as a", () -> levelOfA(0));
        test("a at level 1 as a / 2", () -> levelOfA(1));
        test("a at level 2 as 0", () -> levelOfA(2));
        test("b at level 0 as b", () -> levelOfB(0));
        test("b at level 1 as b / 2", () -> levelOfB(1));
        test("b at level 2 as b / 3", () -> levelOfB(2));
        test("b at level 3 as 0", () -> levelOfB(3));
        test("c at level 0 as c", () -> levelOfC(0));
        test("c at level 1 as c / 2", () -> levelOfC(1));
        test("c at level 2 as c / 4", () -> levelOfC(2));
        test("c at level 3 as 0", () -> levelOfC(3));
        test("a view is written as 16 * (level of a) + 4 * (level of b) + (level of c), 0 .. 47", TermsTest::views);
        test("a cell is full in a view if some fact falls into it", TermsTest::fullCells);
        test("no question changes anything", TermsTest::questionsChangeNothing);
        test("a refused call changes nothing", TermsTest::refusedCallsChangeNothing);
        test("the tests are made in the order named", TermsTest::orderOfTests);
        test("a view is good if it is 0 .. 47", TermsTest::goodViews);
        test("a cell is good if it is 0 .. 191", TermsTest::goodCells);
        System.out.println(wrong == 0 ? "all answers are as due" : wrong + " answers are not as due");
        if (wrong != 0) {
            System.exit(1);
        }
    }

    private static void test(String told, Runnable body) {
        sentence = told;
        body.run();
    }

    private static void due(String call, Object got, Object want) {
        if (!got.equals(want)) {
            wrong++;
            System.out.println("\"" + sentence + "\": " + call + " answered " + got + ", due is " + want);
        }
    }

    private static int place(int a, int b, int c) {
        return 48 * a + 8 * b + c;
    }

    private static int view(int levelA, int levelB, int levelC) {
        return 16 * levelA + 4 * levelB + levelC;
    }

    private static OlapCubes empty() {
        return new OlapCubes();
    }

    private static OlapCubes three() {
        OlapCubes x = new OlapCubes();
        x.put(0, -1000);
        x.put(191, 1000);
        x.put(100, 7);
        return x;
    }

    /** Facts at 0, 1, .. 39, each with the measure of its number. */
    private static OlapCubes forty() {
        OlapCubes x = new OlapCubes();
        for (int i = 0; i < 40; i++) {
            x.put(i, i);
        }
        return x;
    }

    private static List<Start> starts() {
        return List.of(new Start("no facts", TermsTest::empty), new Start("3 facts", TermsTest::three),
            new Start("40 facts", TermsTest::forty));
    }

    /** Every fact's place and measure; a measure is told only by changing it, so it is put back. */
    private static String state(OlapCubes x) {
        StringBuilder told = new StringBuilder();
        int facts = x.facts();
        for (int i = 0; i < facts; i++) {
            int measure = x.measure(i, 0);
            x.measure(i, measure);
            told.append(x.cellOf(0, i)).append(':').append(measure).append(' ');
        }
        return told.toString();
    }

    private static void lastCall() {
        OlapCubes x = new OlapCubes();
        for (int i = 0; i < 40; i++) {
            x.put(i, i);
        }
        for (int i = 40; i < 506; i += 2) {
            x.drop(0);
            x.put(i % 192, i);
        }
        due("facts(), the 507th call", x.facts(), 40);
        due("cellOf(0, 39), the 508th call", x.cellOf(0, 39), 504 % 192);
        due("drop(0), the 509th call", x.drop(0), 39);
        due("put(191, 1000), the 510th call", x.put(191, 1000), 39);
        due("put(0, 0), the 511th call", x.put(0, 0), -3);
        due("sum(0, 191), the 512th call", x.sum(0, 191), 1000);
    }

    private static void mostFacts() {
        OlapCubes x = new OlapCubes();
        for (int i = 0; i < 39; i++) {
            x.put(5, 1);
        }
        due("put(5, 1), the 40th", x.put(5, 1), 39);
        due("facts()", x.facts(), 40);
        due("put(5, 1), the 41st", x.put(5, 1), -3);
        due("sow(5, 0, 1), the 41st", x.sow(5, 0, 1), 40);
        due("facts() after both", x.facts(), 40);
        due("count(0, 5)", x.count(0, 5), 40);
        due("sum(0, 5)", x.sum(0, 5), 40);
        due("drop(39)", x.drop(39), 39);
        due("put(6, 1), room again for one", x.put(6, 1), 39);
        due("put(6, 1), and not for two", x.put(6, 1), -3);

        OlapCubes y = new OlapCubes();
        due("sow(0, 1, 40)", y.sow(0, 1, 40), 40);
        due("put(0, 0) after 40 are sown", y.put(0, 0), -3);
    }

    private static void numbers() {
        OlapCubes x = new OlapCubes();
        due("put(9, 1)", x.put(9, 1), 0);
        due("put(9, 2), the same place again", x.put(9, 2), 1);
        due("put(3, 3), a lesser place", x.put(3, 3), 2);
        due("sow(20, 10, 2)", x.sow(20, 10, 2), 5);
        due("put(1, 4)", x.put(1, 4), 5);
        due("state", state(x), "9:1 9:2 3:3 20:40 30:51 1:4 ");
    }

    private static void coordinates() {
        for (int a = 0; a <= 3; a++) {
            for (int b = 0; b <= 5; b++) {
                for (int c = 0; c <= 7; c++) {
                    OlapCubes x = new OlapCubes();
                    x.put(place(a, b, c), 1);
                    String at = " at " + a + ", " + b + ", " + c;
                    due("cellOf: a alone" + at, x.cellOf(view(0, 3, 3), 0), place(a, 0, 0));
                    due("cellOf: b alone" + at, x.cellOf(view(2, 0, 3), 0), place(0, b, 0));
                    due("cellOf: c alone" + at, x.cellOf(view(2, 3, 0), 0), place(0, 0, c));
                }
            }
        }
    }

    private static void places() {
        for (int place = 0; place <= 191; place++) {
            OlapCubes x = new OlapCubes();
            due("put(" + place + ", 1)", x.put(place, 1), 0);
            due("cellOf(0, 0) at " + place, x.cellOf(0, 0), place);
        }
        OlapCubes y = new OlapCubes();
        for (int bad : BAD_PLACES) {
            due("put(" + bad + ", 1)", y.put(bad, 1), -1);
        }
    }

    private static void measures() {
        for (int measure : new int[] {-1000, -999, -1, 0, 1, 999, 1000}) {
            OlapCubes x = new OlapCubes();
            due("put(0, " + measure + ")", x.put(0, measure), 0);
            due("measure(0, 5) after " + measure, x.measure(0, 5), measure);
            due("measure(0, " + measure + ")", x.measure(0, measure), 5);
            due("sum(0, 0) of " + measure, x.sum(0, 0), measure);
        }
        OlapCubes y = new OlapCubes();
        y.put(0, 3);
        for (int bad : BAD_MEASURES) {
            due("put(0, " + bad + ")", y.put(0, bad), -2);
            due("measure(0, " + bad + ")", y.measure(0, bad), -2);
        }
    }

    // Each level is looked at with the other coordinates greatest and seen finest, and seen as 0.

    private static void levelOfA(int level) {
        for (int a = 0; a <= 3; a++) {
            OlapCubes x = new OlapCubes();
            x.put(place(a, 5, 7), 1);
            due("cellOf with b and c finest, a = " + a, x.cellOf(view(level, 0, 0), 0), place(A_SEEN[level][a], 5, 7));
            due("cellOf with b and c as 0, a = " + a, x.cellOf(view(level, 3, 3), 0), place(A_SEEN[level][a], 0, 0));
        }
    }

    private static void levelOfB(int level) {
        for (int b = 0; b <= 5; b++) {
            OlapCubes x = new OlapCubes();
            x.put(place(3, b, 7), 1);
            due("cellOf with a and c finest, b = " + b, x.cellOf(view(0, level, 0), 0), place(3, B_SEEN[level][b], 7));
            due("cellOf with a and c as 0, b = " + b, x.cellOf(view(2, level, 3), 0), place(0, B_SEEN[level][b], 0));
        }
    }

    private static void levelOfC(int level) {
        for (int c = 0; c <= 7; c++) {
            OlapCubes x = new OlapCubes();
            x.put(place(3, 5, c), 1);
            due("cellOf with a and b finest, c = " + c, x.cellOf(view(0, 0, level), 0), place(3, 5, C_SEEN[level][c]));
            due("cellOf with a and b as 0, c = " + c, x.cellOf(view(2, 3, level), 0), place(0, 0, C_SEEN[level][c]));
        }
    }

    private static void views() {
        OlapCubes x = new OlapCubes();
        x.put(191, 1);
        int number = 0;
        for (int a = 0; a <= 2; a++) {
            for (int b = 0; b <= 3; b++) {
                for (int c = 0; c <= 3; c++) {
                    due("cellOf(" + number + ", 0)", x.cellOf(number, 0),
                        place(A_SEEN[a][3], B_SEEN[b][5], C_SEEN[c][7]));
                    number++;
                }
            }
        }
        due("the views in all", number, 48);
    }

    private static void fullCells() {
        OlapCubes x = new OlapCubes();
        due("full(0), no facts", x.full(0), 0);
        x.put(60, 0);
        due("full(0), one fact that measures 0", x.full(0), 1);
        due("next(0, -1)", x.next(0, -1), 60);
        x.put(60, 8);
        x.put(60, -8);
        due("full(0), three facts that cancel out", x.full(0), 1);
        due("best(0)", x.best(0), 60);
        due("having(0, 0)", x.having(0, 0), 1);
        x.drop(0);
        x.drop(0);
        due("full(0), the last of three", x.full(0), 1);
        x.drop(0);
        due("full(0), all dropped", x.full(0), 0);
        due("next(0, -1), all dropped", x.next(0, -1), -2);
    }

    private static List<Call> questions() {
        List<Call> all = new ArrayList<>();
        all.add(new Call("facts()", OlapCubes::facts));
        for (int view : new int[] {0, 21, 47, -1, 48, MIN, MAX}) {
            all.add(new Call("prepare(" + view + ")", x -> x.prepare(view)));
            all.add(new Call("full(" + view + ")", x -> x.full(view)));
            all.add(new Call("best(" + view + ")", x -> x.best(view)));
            for (int other : new int[] {0, 1, 39, 191, -1, 40, 192, MIN, MAX}) {
                String both = "(" + view + ", " + other + ")";
                all.add(new Call("cellOf" + both, x -> x.cellOf(view, other)));
                all.add(new Call("count" + both, x -> x.count(view, other)));
                all.add(new Call("sum" + both, x -> x.sum(view, other)));
                all.add(new Call("least" + both, x -> x.least(view, other)));
                all.add(new Call("most" + both, x -> x.most(view, other)));
                all.add(new Call("next" + both, x -> x.next(view, other)));
                all.add(new Call("having" + both, x -> x.having(view, other)));
                all.add(new Call("finer" + both, x -> x.finer(view, other)));
            }
        }
        for (int cells : new int[] {0, 1, 40, 192, -1, 193, MIN, MAX}) {
            all.add(new Call("viewsWith(" + cells + ")", x -> x.viewsWith(cells)));
        }
        return all;
    }

    private static void questionsChangeNothing() {
        for (Start start : starts()) {
            String before = state(start.made().get());
            for (Call question : questions()) {
                OlapCubes x = start.made().get();
                int first = question.made().applyAsInt(x);
                due(question.text() + " again, " + start.text(), question.made().applyAsInt(x), first);
                due("state after " + question.text() + ", " + start.text(), state(x), before);
            }
        }
    }

    private static void refused(Start start, String call, int want, ToIntFunction<OlapCubes> made) {
        OlapCubes x = start.made().get();
        String before = state(start.made().get());
        due(call + ", " + start.text(), made.applyAsInt(x), want);
        due("state after " + call + ", " + start.text(), state(x), before);
    }

    private static void refusedCallsChangeNothing() {
        for (Start start : starts()) {
            int facts = start.made().get().facts();
            for (int bad : BAD_PLACES) {
                refused(start, "put(" + bad + ", 5)", -1, x -> x.put(bad, 5));
                refused(start, "sow(" + bad + ", 1, 1)", -1, x -> x.sow(bad, 1, 1));
                refused(start, "sow(1, " + bad + ", 1)", -2, x -> x.sow(1, bad, 1));
            }
            for (int bad : BAD_MEASURES) {
                refused(start, "put(5, " + bad + ")", -2, x -> x.put(5, bad));
                refused(start, "measure(0, " + bad + ")", facts == 0 ? -1 : -2, x -> x.measure(0, bad));
            }
            for (int bad : new int[] {0, -1, 41, 42, MIN, MAX}) {
                refused(start, "sow(1, 1, " + bad + ")", -3, x -> x.sow(1, 1, bad));
            }
            for (int bad : new int[] {-1, facts, facts + 1, 40, MIN, MAX}) {
                refused(start, "measure(" + bad + ", 5)", -1, x -> x.measure(bad, 5));
                refused(start, "drop(" + bad + ")", -1, x -> x.drop(bad));
            }
        }
        Start full = new Start("40 facts", TermsTest::forty);
        refused(full, "put(5, 5)", -3, x -> x.put(5, 5));
    }

    private static void orderOfTests() {
        OlapCubes x = forty();
        due("put: all three wrong", x.put(192, 1001), -1);
        due("put: place wrong and no room", x.put(-1, 0), -1);
        due("put: measure wrong and no room", x.put(0, -1001), -2);
        due("sow: all three wrong", x.sow(192, 192, 41), -1);
        due("sow: seed and step wrong", x.sow(-1, -1, 1), -1);
        due("sow: seed and count wrong", x.sow(-1, 1, 0), -1);
        due("sow: step and count wrong", x.sow(1, -1, 0), -2);
        due("measure: both wrong", x.measure(40, 1001), -1);
        due("measure: both wrong below", x.measure(-1, -1001), -1);
        due("cellOf: both wrong", x.cellOf(48, 40), -1);
        due("cellOf: both wrong below", x.cellOf(-1, -1), -1);
        due("count: both wrong", x.count(48, 192), -1);
        due("count: both wrong below", x.count(-1, -1), -1);
        due("next: view wrong and none greater", x.next(48, MAX), -1);
        due("having: view wrong and none at least bound", x.having(48, MAX), -1);

        OlapCubes y = new OlapCubes();
        due("put: place and measure wrong, room", y.put(-1, -1001), -1);
        due("measure: both wrong, no facts", y.measure(0, 1001), -1);
        due("cellOf: both wrong, no facts", y.cellOf(-1, 0), -1);
        due("next: view wrong, no facts", y.next(-1, -1), -1);
        due("best: view wrong, no facts", y.best(48), -1);
    }

    private static void goodViews() {
        for (int view = 0; view <= 47; view++) {
            OlapCubes x = new OlapCubes();
            x.put(0, 6);
            due("prepare(" + view + ")", x.prepare(view), 1);
            due("cellOf(" + view + ", 0)", x.cellOf(view, 0), 0);
            due("full(" + view + ")", x.full(view), 1);
            due("count(" + view + ", 0)", x.count(view, 0), 1);
            due("sum(" + view + ", 0)", x.sum(view, 0), 6);
            due("least(" + view + ", 0)", x.least(view, 0), 6);
            due("most(" + view + ", 0)", x.most(view, 0), 6);
            due("next(" + view + ", -1)", x.next(view, -1), 0);
            due("best(" + view + ")", x.best(view), 0);
            due("having(" + view + ", 6)", x.having(view, 6), 1);
            due("finer(" + view + ", " + view + ")", x.finer(view, view), 1);
        }
        for (int bad : BAD_VIEWS) {
            OlapCubes x = new OlapCubes();
            x.put(0, 6);
            due("prepare(" + bad + ")", x.prepare(bad), -1);
            due("cellOf(" + bad + ", 0)", x.cellOf(bad, 0), -1);
            due("full(" + bad + ")", x.full(bad), -1);
            due("count(" + bad + ", 0)", x.count(bad, 0), -1);
            due("sum(" + bad + ", 0)", x.sum(bad, 0), 0);
            due("least(" + bad + ", 0)", x.least(bad, 0), 10000);
            due("most(" + bad + ", 0)", x.most(bad, 0), -10000);
            due("next(" + bad + ", -1)", x.next(bad, -1), -1);
            due("best(" + bad + ")", x.best(bad), -1);
            due("having(" + bad + ", 6)", x.having(bad, 6), -1);
            due("finer(" + bad + ", 47)", x.finer(bad, 47), -1);
            due("finer(0, " + bad + ")", x.finer(0, bad), -1);
        }
    }

    private static void goodCells() {
        for (int cell = 0; cell <= 191; cell++) {
            OlapCubes x = new OlapCubes();
            x.put(cell, 6);
            due("count(0, " + cell + ")", x.count(0, cell), 1);
            due("sum(0, " + cell + ")", x.sum(0, cell), 6);
            due("least(0, " + cell + ")", x.least(0, cell), 6);
            due("most(0, " + cell + ")", x.most(0, cell), 6);
        }
        for (int bad : BAD_PLACES) {
            OlapCubes x = three();
            due("count(0, " + bad + ")", x.count(0, bad), -2);
            due("sum(0, " + bad + ")", x.sum(0, bad), 0);
            due("least(0, " + bad + ")", x.least(0, bad), 10000);
            due("most(0, " + bad + ")", x.most(0, bad), -10000);
        }
    }
}
