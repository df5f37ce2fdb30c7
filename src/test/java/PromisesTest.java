/** For each promise its ordinary inputs, the edges that the document names, and wrong inputs. */
public final class PromisesTest {
    private static final int MIN = Integer.MIN_VALUE;
    private static final int MAX = Integer.MAX_VALUE;

    private static int wrong = 0;
    private static int promise = 0;

    public static void main(String[] args) {
        newObject();
        put();
        sow();
        measure();
        drop();
        prepare();
        facts();
        cellOf();
        full();
        count();
        sum();
        least();
        most();
        next();
        best();
        having();
        finer();
        viewsWith();
        sownMeasures();
        System.out.println(wrong == 0 ? "all answers are as due" : wrong + " answers are not as due");
        if (wrong != 0) {
            System.exit(1);
        }
    }

    private static void due(String call, int got, int want) {
        if (got != want) {
            wrong++;
            System.out.println("promise " + promise + ": " + call + " answered " + got + ", due is " + want);
        }
    }

    private static int place(int a, int b, int c) {
        return 48 * a + 8 * b + c;
    }

    private static int view(int levelA, int levelB, int levelC) {
        return 16 * levelA + 4 * levelB + levelC;
    }

    /** Facts 0 .. 3: two at one place, one that shares its b / 2, one far off. */
    private static OlapCubes small() {
        OlapCubes x = new OlapCubes();
        x.put(place(1, 2, 3), 50);
        x.put(place(1, 3, 2), -70);
        x.put(place(3, 5, 7), 1000);
        x.put(place(1, 2, 3), 9);
        return x;
    }

    private static OlapCubes filled() {
        OlapCubes x = new OlapCubes();
        for (int i = 0; i < 40; i++) {
            x.put(i, i);
        }
        return x;
    }

    private static void newObject() {
        promise = 1;
        OlapCubes x = new OlapCubes();
        due("facts()", x.facts(), 0);
        for (int view = 0; view < 48; view++) {
            due("full(" + view + ")", x.full(view), 0);
            due("best(" + view + ")", x.best(view), -2);
            due("next(" + view + ", MIN)", x.next(view, MIN), -2);
            due("having(" + view + ", MIN)", x.having(view, MIN), 0);
            due("count(" + view + ", 0)", x.count(view, 0), 0);
        }
        due("viewsWith(0)", x.viewsWith(0), 48);
        OlapCubes y = new OlapCubes();
        y.put(0, 1);
        due("facts() of the other object", x.facts(), 0);
    }

    private static void put() {
        promise = 2;
        OlapCubes x = new OlapCubes();
        due("put(0, -1000)", x.put(0, -1000), 0);
        due("put(191, 1000)", x.put(191, 1000), 1);
        due("put(191, 0)", x.put(191, 0), 2);
        due("cellOf(0, 1)", x.cellOf(0, 1), 191);
        due("sum(0, 0)", x.sum(0, 0), -1000);
        due("sum(0, 191)", x.sum(0, 191), 1000);
        for (int place : new int[] {-1, 192, MIN, MAX}) {
            due("put(" + place + ", 0)", x.put(place, 0), -1);
            due("put(" + place + ", 1001)", x.put(place, 1001), -1);
        }
        for (int measure : new int[] {-1001, 1001, MIN, MAX}) {
            due("put(5, " + measure + ")", x.put(5, measure), -2);
        }
        due("facts() after refusals", x.facts(), 3);

        OlapCubes y = new OlapCubes();
        for (int i = 0; i < 40; i++) {
            due("put(" + i + ", 0)", y.put(i, 0), i);
        }
        due("put(0, 0), the 41st", y.put(0, 0), -3);
        due("put(192, 0), the 41st", y.put(192, 0), -1);
        due("put(0, 1001), the 41st", y.put(0, 1001), -2);
        due("count(0, 0)", y.count(0, 0), 1);
        due("facts()", y.facts(), 40);
        y.drop(39);
        due("put(0, 0) after a drop", y.put(0, 0), 39);
    }

    private static void sow() {
        promise = 3;
        OlapCubes x = new OlapCubes();
        x.put(7, 7);
        due("sow(190, 191, 3)", x.sow(190, 191, 3), 4);
        due("cellOf(0, 0)", x.cellOf(0, 0), 7);
        due("cellOf(0, 1)", x.cellOf(0, 1), 190);
        due("cellOf(0, 2)", x.cellOf(0, 2), 189);
        due("cellOf(0, 3)", x.cellOf(0, 3), 188);
        due("sow(0, 0, 1)", x.sow(0, 0, 1), 5);
        due("sow(191, 5, 2), k begins at 0 again", x.sow(191, 5, 2), 7);
        due("cellOf(0, 5)", x.cellOf(0, 5), 191);
        due("cellOf(0, 6)", x.cellOf(0, 6), 4);
        for (int bad : new int[] {-1, 192, MIN, MAX}) {
            due("sow(" + bad + ", 192, 0)", x.sow(bad, 192, 0), -1);
            due("sow(0, " + bad + ", 0)", x.sow(0, bad, 0), -2);
        }
        for (int bad : new int[] {0, -1, 41, MIN, MAX}) {
            due("sow(0, 0, " + bad + ")", x.sow(0, 0, bad), -3);
        }
        due("facts() after refusals", x.facts(), 7);
        due("sow(0, 1, 34), more than there is room", x.sow(0, 1, 34), 40);
        due("cellOf(0, 39)", x.cellOf(0, 39), 32);
        due("sow(0, 1, 1), no room", x.sow(0, 1, 1), 40);
        due("sow(192, 1, 1), no room", x.sow(192, 1, 1), -1);
        due("sow(0, 0, 41), no room", x.sow(0, 0, 41), -3);
        due("sow(191, 191, 40)", new OlapCubes().sow(191, 191, 40), 40);
    }

    private static void measure() {
        promise = 4;
        OlapCubes x = small();
        due("measure(0, 1000)", x.measure(0, 1000), 50);
        due("measure(0, -1000)", x.measure(0, -1000), 1000);
        due("measure(3, 0)", x.measure(3, 0), 9);
        for (int fact : new int[] {-1, 4, 39, 40, MIN, MAX}) {
            due("measure(" + fact + ", 1001)", x.measure(fact, 1001), -1);
            due("measure(" + fact + ", 0)", x.measure(fact, 0), -1);
        }
        for (int measure : new int[] {-1001, 1001, MIN, MAX}) {
            due("measure(0, " + measure + ")", x.measure(0, measure), -2);
        }
        due("measure(0, 1) after refusals", x.measure(0, 1), -1000);
        due("measure(1, 1)", x.measure(1, 1), -70);
        due("sum(47, 0)", x.sum(47, 0), 1 + 1 + 1000 + 0);
        due("cellOf(0, 0)", x.cellOf(0, 0), place(1, 2, 3));
    }

    private static void drop() {
        promise = 5;
        OlapCubes x = small();
        for (int fact : new int[] {-1, 4, MIN, MAX}) {
            due("drop(" + fact + ")", x.drop(fact), -1);
        }
        due("drop(1)", x.drop(1), 3);
        due("cellOf(0, 0)", x.cellOf(0, 0), place(1, 2, 3));
        due("cellOf(0, 1)", x.cellOf(0, 1), place(3, 5, 7));
        due("measure(1, 3)", x.measure(1, 3), 1000);
        due("measure(2, 9)", x.measure(2, 9), 9);
        due("cellOf(0, 3)", x.cellOf(0, 3), -2);
        due("drop(3)", x.drop(3), -1);
        due("drop(2)", x.drop(2), 2);
        due("drop(0)", x.drop(0), 1);
        due("sum(47, 0)", x.sum(47, 0), 3);
        due("drop(0)", x.drop(0), 0);
        due("drop(0), nothing left", x.drop(0), -1);
        due("full(47)", x.full(47), 0);
        due("put(1, 1)", x.put(1, 1), 0);

        OlapCubes y = filled();
        due("drop(0) of 40", y.drop(0), 39);
        due("cellOf(0, 38)", y.cellOf(0, 38), 39);
        due("count(0, 0)", y.count(0, 0), 0);
    }

    private static void prepare() {
        promise = 6;
        OlapCubes x = small();
        for (int view : new int[] {-1, 48, MIN, MAX}) {
            due("prepare(" + view + ")", x.prepare(view), -1);
        }
        due("prepare(0)", x.prepare(0), 3);
        due("prepare(47)", x.prepare(47), 1);
        due("prepare(21)", x.prepare(view(1, 1, 1)), 2);
        x.put(place(0, 0, 0), -1);
        due("full(0)", x.full(0), 4);
        due("prepare(0)", x.prepare(0), 4);
        x.measure(0, -50);
        due("sum(47, 0)", x.sum(47, 0), -50 - 70 + 1000 + 9 - 1);
        x.drop(2);
        due("best(0)", x.best(0), 0);
        due("most(47, 0)", x.most(47, 0), 9);
        due("full(21)", x.full(view(1, 1, 1)), 2);
        due("prepare(47), no facts", new OlapCubes().prepare(47), 0);
    }

    private static void facts() {
        promise = 7;
        OlapCubes x = small();
        due("facts()", x.facts(), 4);
        due("facts() again", x.facts(), 4);
        x.drop(0);
        due("facts() after drop", x.facts(), 3);
        x.sow(1, 1, 5);
        due("facts() after sow", x.facts(), 8);
        x.measure(0, 0);
        due("facts() after measure", x.facts(), 8);
        due("facts() of 40", filled().facts(), 40);
    }

    private static void cellOf() {
        promise = 8;
        int[][] seenA = {{0, 1, 2, 3}, {0, 0, 1, 1}, {0, 0, 0, 0}};
        int[][] seenB = {{0, 1, 2, 3, 4, 5}, {0, 0, 1, 1, 2, 2}, {0, 0, 0, 1, 1, 1}, {0, 0, 0, 0, 0, 0}};
        int[][] seenC = {{0, 1, 2, 3, 4, 5, 6, 7}, {0, 0, 1, 1, 2, 2, 3, 3},
            {0, 0, 0, 0, 1, 1, 1, 1}, {0, 0, 0, 0, 0, 0, 0, 0}};
        for (int place = 0; place < 192; place++) {
            OlapCubes x = new OlapCubes();
            x.put(place, 0);
            for (int view = 0; view < 48; view++) {
                int want = place(seenA[view / 16][place / 48], seenB[view / 4 % 4][place / 8 % 6],
                    seenC[view % 4][place % 8]);
                due("cellOf(" + view + ", 0) at " + place, x.cellOf(view, 0), want);
            }
        }
        OlapCubes x = small();
        for (int bad : new int[] {-1, 48, MIN, MAX}) {
            due("cellOf(" + bad + ", 0)", x.cellOf(bad, 0), -1);
            due("cellOf(" + bad + ", 4)", x.cellOf(bad, 4), -1);
        }
        for (int bad : new int[] {-1, 4, 39, 40, MIN, MAX}) {
            due("cellOf(0, " + bad + ")", x.cellOf(0, bad), -2);
        }
        due("cellOf(0, 40) of 40", filled().cellOf(0, 40), -2);
        due("cellOf(0, 39) of 40", filled().cellOf(0, 39), 39);
    }

    private static void full() {
        promise = 9;
        OlapCubes x = small();
        due("full(0)", x.full(0), 3);
        due("full: halves of b and c", x.full(view(0, 1, 1)), 2);
        due("full: thirds of b", x.full(view(0, 2, 1)), 3);
        due("full: a alone", x.full(view(0, 3, 3)), 2);
        due("full: b alone", x.full(view(2, 0, 3)), 3);
        due("full: c alone", x.full(view(2, 3, 0)), 3);
        due("full(47)", x.full(47), 1);
        for (int view : new int[] {-1, 48, MIN, MAX}) {
            due("full(" + view + ")", x.full(view), -1);
        }
        due("full(0) of 40", filled().full(0), 40);
        due("full(3) of 40", filled().full(3), 5);
    }

    private static void count() {
        promise = 10;
        OlapCubes x = small();
        due("count(0, 67)", x.count(0, place(1, 2, 3)), 2);
        due("count(0, 74)", x.count(0, place(1, 3, 2)), 1);
        due("count(0, 0)", x.count(0, 0), 0);
        due("count(0, 191)", x.count(0, 191), 1);
        due("count(47, 0)", x.count(47, 0), 4);
        due("count(47, 191), a cell that nothing can fall into", x.count(47, 191), 0);
        due("count: halves of b and c", x.count(view(0, 1, 1), place(1, 1, 1)), 3);
        for (int bad : new int[] {-1, 48, MIN, MAX}) {
            due("count(" + bad + ", 192)", x.count(bad, 192), -1);
        }
        for (int bad : new int[] {-1, 192, MIN, MAX}) {
            due("count(0, " + bad + ")", x.count(0, bad), -2);
        }
        due("count(47, 0) of 40", filled().count(47, 0), 40);
    }

    private static void sum() {
        promise = 11;
        OlapCubes x = small();
        due("sum(0, 67)", x.sum(0, place(1, 2, 3)), 59);
        due("sum: halves of b and c", x.sum(view(0, 1, 1), place(1, 1, 1)), -11);
        due("sum(0, 191)", x.sum(0, 191), 1000);
        due("sum(0, 0)", x.sum(0, 0), 0);
        due("sum(47, 0)", x.sum(47, 0), 989);
        for (int bad : new int[] {-1, 48, MIN, MAX}) {
            due("sum(" + bad + ", 0)", x.sum(bad, 0), 0);
        }
        for (int bad : new int[] {-1, 192, MIN, MAX}) {
            due("sum(47, " + bad + ")", x.sum(47, bad), 0);
        }
        OlapCubes y = new OlapCubes();
        for (int i = 0; i < 40; i++) {
            y.put(i, -1000);
        }
        due("sum(47, 0), the least there can be", y.sum(47, 0), -40000);
    }

    private static void least() {
        promise = 12;
        OlapCubes x = small();
        due("least(0, 67)", x.least(0, place(1, 2, 3)), 9);
        due("least(0, 191)", x.least(0, 191), 1000);
        due("least(47, 0)", x.least(47, 0), -70);
        due("least(0, 0)", x.least(0, 0), 10000);
        for (int bad : new int[] {-1, 48, MIN, MAX}) {
            due("least(" + bad + ", 0)", x.least(bad, 0), 10000);
        }
        for (int bad : new int[] {-1, 192, MIN, MAX}) {
            due("least(47, " + bad + ")", x.least(47, bad), 10000);
        }
        x.measure(0, -1000);
        due("least(47, 0), the first fact's", x.least(47, 0), -1000);
    }

    private static void most() {
        promise = 13;
        OlapCubes x = small();
        due("most(0, 67)", x.most(0, place(1, 2, 3)), 50);
        due("most(0, 74)", x.most(0, place(1, 3, 2)), -70);
        due("most(47, 0)", x.most(47, 0), 1000);
        due("most(0, 0)", x.most(0, 0), -10000);
        for (int bad : new int[] {-1, 48, MIN, MAX}) {
            due("most(" + bad + ", 0)", x.most(bad, 0), -10000);
        }
        for (int bad : new int[] {-1, 192, MIN, MAX}) {
            due("most(47, " + bad + ")", x.most(47, bad), -10000);
        }
        x.measure(2, -1000);
        due("most(0, 191), the least there can be", x.most(0, 191), -1000);
    }

    private static void next() {
        promise = 14;
        OlapCubes x = small();
        due("next(0, MIN)", x.next(0, MIN), 67);
        due("next(0, 66)", x.next(0, 66), 67);
        due("next(0, 67)", x.next(0, 67), 74);
        due("next(0, 74)", x.next(0, 74), 191);
        due("next(0, 190)", x.next(0, 190), 191);
        due("next(0, 191)", x.next(0, 191), -2);
        due("next(0, MAX)", x.next(0, MAX), -2);
        due("next(47, -1)", x.next(47, -1), 0);
        due("next(47, -2)", x.next(47, -2), 0);
        due("next(47, 0)", x.next(47, 0), -2);
        for (int bad : new int[] {-1, 48, MIN, MAX}) {
            due("next(" + bad + ", 191)", x.next(bad, 191), -1);
        }
        x.put(3, 0);
        due("next(0, -1), a later fact in a lesser cell", x.next(0, -1), 3);
        OlapCubes y = new OlapCubes();
        y.put(0, 0);
        due("next(0, -1), one fact", y.next(0, -1), 0);
        y.put(1, 0);
        due("next(0, -1), a later fact in a greater cell", y.next(0, -1), 0);
    }

    private static void best() {
        promise = 15;
        OlapCubes x = small();
        due("best(0)", x.best(0), 191);
        x.measure(2, 59);
        due("best(0), two alike", x.best(0), 67);
        x.put(0, 59);
        due("best(0), three alike, the least put in last", x.best(0), 0);
        x.measure(4, 58);
        due("best(0), sums and not measures count", x.best(0), 67);
        due("best(47)", x.best(47), 0);
        for (int bad : new int[] {-1, 48, MIN, MAX}) {
            due("best(" + bad + ")", x.best(bad), -1);
        }
        OlapCubes y = new OlapCubes();
        due("best(0), no facts", y.best(0), -2);
        due("best(48), no facts", y.best(48), -1);
        y.put(9, -1000);
        y.put(9, -1000);
        y.put(8, -1000);
        due("best(0), all below 0", y.best(0), 8);
        due("best(1)", y.best(1), 8);
        OlapCubes z = new OlapCubes();
        z.put(0, 5);
        due("best(0), one fact", z.best(0), 0);
        z.put(1, 5);
        due("best(0), two alike, the least put in first", z.best(0), 0);
        z.measure(1, 4);
        due("best(0), a lesser sum put in last", z.best(0), 0);
    }

    private static void having() {
        promise = 16;
        OlapCubes x = small();
        due("having(0, MIN)", x.having(0, MIN), 3);
        due("having(0, -70)", x.having(0, -70), 3);
        due("having(0, -69)", x.having(0, -69), 2);
        due("having(0, 59)", x.having(0, 59), 2);
        due("having(0, 60)", x.having(0, 60), 1);
        due("having(0, 1000)", x.having(0, 1000), 1);
        due("having(0, 1001)", x.having(0, 1001), 0);
        due("having(0, MAX)", x.having(0, MAX), 0);
        due("having(21, -11)", x.having(view(1, 1, 1), -11), 2);
        due("having(21, -10)", x.having(view(1, 1, 1), -10), 1);
        for (int bad : new int[] {-1, 48, MIN, MAX}) {
            due("having(" + bad + ", 0)", x.having(bad, 0), -1);
        }
    }

    private static void finer() {
        promise = 17;
        OlapCubes x = small();
        for (int fine = 0; fine < 48; fine++) {
            for (int coarse = 0; coarse < 48; coarse++) {
                boolean halvesAndThirds = fine / 4 % 4 == 1 && coarse / 4 % 4 == 2;
                boolean want = fine / 16 <= coarse / 16 && fine / 4 % 4 <= coarse / 4 % 4
                    && fine % 4 <= coarse % 4 && !halvesAndThirds;
                due("finer(" + fine + ", " + coarse + ")", new OlapCubes().finer(fine, coarse), want ? 1 : 0);
            }
        }
        for (int bad : new int[] {-1, 48, MIN, MAX}) {
            due("finer(" + bad + ", 0)", x.finer(bad, 0), -1);
            due("finer(0, " + bad + ")", x.finer(0, bad), -1);
            due("finer(" + bad + ", " + bad + ")", x.finer(bad, bad), -1);
        }
    }

    private static void viewsWith() {
        promise = 18;
        OlapCubes x = new OlapCubes();
        due("viewsWith(0), no facts", x.viewsWith(0), 48);
        due("viewsWith(1), no facts", x.viewsWith(1), 0);
        x.put(place(0, 0, 0), 1);
        due("viewsWith(1), one fact", x.viewsWith(1), 48);
        due("viewsWith(0), one fact", x.viewsWith(0), 0);
        x.put(place(1, 0, 0), 1);
        due("viewsWith(2), apart at level 0 of a", x.viewsWith(2), 16);
        due("viewsWith(1), together above it", x.viewsWith(1), 32);
        x.put(place(0, 2, 0), 1);
        due("viewsWith(3)", x.viewsWith(3), 8);
        due("viewsWith(2)", x.viewsWith(2), 8 + 16);
        due("viewsWith(1)", x.viewsWith(1), 16);
        due("viewsWith(192)", x.viewsWith(192), 0);
        due("viewsWith(40) of 40", filled().viewsWith(40), 3);
        for (int bad : new int[] {-1, 193, MIN, MAX}) {
            due("viewsWith(" + bad + ")", x.viewsWith(bad), -1);
        }
    }

    private static void sownMeasures() {
        promise = 19;
        OlapCubes x = new OlapCubes();
        x.sow(0, 1, 6);
        int[] first = {-100, -89, -56, -1, 76, 175};
        for (int k = 0; k < first.length; k++) {
            due("sum(0, " + k + ") after sow(0, 1, 6)", x.sum(0, k), first[k]);
        }
        OlapCubes y = new OlapCubes();
        y.sow(191, 0, 40);
        for (int k = 0; k < 40; k++) {
            due("measure(" + k + ", 0) after sow(191, 0, 40)", y.measure(k, 0), (1337 + 11 * k * k) % 300 - 100);
        }
        OlapCubes z = new OlapCubes();
        z.sow(43, 0, 1);
        z.sow(128, 0, 1);
        z.sow(157, 0, 1);
        due("sum(0, 43): 301 leaves 1", z.sum(0, 43), -99);
        due("sum(0, 128): 896 leaves 296", z.sum(0, 128), 196);
        due("sum(0, 157): 1099 leaves 199", z.sum(0, 157), 99);
        z.sow(10, 0, 7);
        due("measure(9, 0), the last of the sown, k is 6", z.measure(9, 0), (70 + 396) % 300 - 100);
    }
}
