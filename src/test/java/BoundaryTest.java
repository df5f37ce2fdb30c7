/** One test for each sentence of promises 1 to 19 that names a boundary case. */
public final class BoundaryTest {
    private static final int MIN = Integer.MIN_VALUE;
    private static final int MAX = Integer.MAX_VALUE;

    // Beside the nearest wrong numbers those that a lost sign, a narrower type or a wrap-around would let through.
    private static final int[] BAD_VIEWS = {-1, 48, -2, -47, -48, 49, 64, 256, 65536, MIN, MIN + 1, MAX};
    private static final int[] BAD_PLACES = {-1, 192, -2, -191, -192, 193, 256, 65536, MIN, MIN + 1, MAX};
    private static final int[] BAD_MEASURES = {-1001, 1001, -1002, 1002, 65536, MIN, MIN + 1000, MAX};

    private static int wrong = 0;
    private static String sentence = "";

    public static void main(String[] args) {
        test("1: no facts", BoundaryTest::newObject);
        test("2: -1 if place is not in 0 .. 191", BoundaryTest::putWrongPlace);
        test("2: -2 if measure is not in -1000 .. 1000", BoundaryTest::putWrongMeasure);
        test("2: -3 if there are 40 facts", BoundaryTest::putNoRoom);
        test("2: otherwise answers its number", BoundaryTest::putNumber);
        test("3: puts up to count facts in", BoundaryTest::sowCount);
        test("3: as long as there is room", BoundaryTest::sowRoom);
        test("3: the place (seed + k * step) modulo 192", BoundaryTest::sowPlaces);
        test("3: the measure (seed * 7 + k * k * 11) modulo 300 less 100", BoundaryTest::sowMeasures);
        test("3: -1 if seed is not in 0 .. 191", BoundaryTest::sowWrongSeed);
        test("3: -2 if step is not in 0 .. 191", BoundaryTest::sowWrongStep);
        test("3: -3 if count is not in 1 .. 40", BoundaryTest::sowWrongCount);
        test("3: otherwise answers how many facts there are", BoundaryTest::sowAnswer);
        test("4: -1 if there is no such fact", BoundaryTest::measureNoFact);
        test("4: -2 if measure is not in -1000 .. 1000", BoundaryTest::measureWrong);
        test("4: otherwise answers the one before", BoundaryTest::measureBefore);
        test("5: later ones get numbers less by one", BoundaryTest::dropLater);
        test("5: -1 if there is no such fact", BoundaryTest::dropNoFact);
        test("5: otherwise answers how many are left", BoundaryTest::dropLeft);
        test("6: no answer of any call depends on it", BoundaryTest::prepareTellsNothing);
        test("6: -1 if view is not good", BoundaryTest::prepareWrongView);
        test("6: otherwise answers how many cells are full in it", BoundaryTest::prepareAnswer);
        test("7: how many facts there are", BoundaryTest::factsEnds);
        test("8: -1 if view is not good", BoundaryTest::cellOfWrongView);
        test("8: -2 if there is no such fact", BoundaryTest::cellOfNoFact);
        test("9: how many cells are full in a view", BoundaryTest::fullEnds);
        test("9: -1 if view is not good", BoundaryTest::fullWrongView);
        test("10: how many facts fall into a cell", BoundaryTest::countEnds);
        test("10: -1 if view is not good", BoundaryTest::countWrongView);
        test("10: -2 if cell is not good", BoundaryTest::countWrongCell);
        test("11: the sum of the measures of a cell's facts", BoundaryTest::sumEnds);
        test("11: 0 if view or cell is not good", BoundaryTest::sumWrong);
        test("11: 0 if no fact falls into it", BoundaryTest::sumNone);
        test("12: the least measure of a cell's facts", BoundaryTest::leastEnds);
        test("12: 10000 if view or cell is not good", BoundaryTest::leastWrong);
        test("12: 10000 if no fact falls into it", BoundaryTest::leastNone);
        test("13: the greatest measure of a cell's facts", BoundaryTest::mostEnds);
        test("13: -10000 if view or cell is not good", BoundaryTest::mostWrong);
        test("13: -10000 if no fact falls into it", BoundaryTest::mostNone);
        test("14: the least full cell that is greater than after", BoundaryTest::nextGreater);
        test("14: after is any int", BoundaryTest::nextAnyInt);
        test("14: -1 if view is not good", BoundaryTest::nextWrongView);
        test("14: -2 if there is none", BoundaryTest::nextNone);
        test("15: the full cell whose sum is greatest", BoundaryTest::bestGreatest);
        test("15: the least such cell among several", BoundaryTest::bestAmongSeveral);
        test("15: -1 if view is not good", BoundaryTest::bestWrongView);
        test("15: -2 if there is none", BoundaryTest::bestNone);
        test("16: how many full cells have a sum of at least bound", BoundaryTest::havingAtLeast);
        test("16: bound is any int", BoundaryTest::havingAnyInt);
        test("16: -1 if view is not good", BoundaryTest::havingWrongView);
        test("17: 1 if fine is at least as fine as coarse in every coordinate", BoundaryTest::finerLevels);
        test("17: that is, if any two places ..; otherwise 0", BoundaryTest::finerPlaces);
        test("17: -1 if fine or coarse is not good", BoundaryTest::finerWrong);
        test("18: how many views have just so many full cells", BoundaryTest::viewsWithEnds);
        test("18: -1 if cells is not in 0 .. 192", BoundaryTest::viewsWithWrong);
        test("19: the remainder modulo 300, and then 100 less (-100 .. 199)", BoundaryTest::sownMeasureEnds);
        System.out.println(wrong == 0 ? "all answers are as due" : wrong + " answers are not as due");
        if (wrong != 0) {
            System.exit(1);
        }
    }

    private static void test(String told, Runnable body) {
        sentence = told;
        body.run();
    }

    private static void due(String call, int got, int want) {
        if (got != want) {
            wrong++;
            System.out.println("promise " + sentence + ": " + call + " answered " + got + ", due is " + want);
        }
    }

    private static int place(int a, int b, int c) {
        return 48 * a + 8 * b + c;
    }

    private static int view(int levelA, int levelB, int levelC) {
        return 16 * levelA + 4 * levelB + levelC;
    }

    /** Facts at the first, the last and a middle place; at 100 stand two. */
    private static OlapCubes four() {
        OlapCubes x = new OlapCubes();
        x.put(0, -1000);
        x.put(100, 7);
        x.put(191, 1000);
        x.put(100, -3);
        return x;
    }

    /** Facts at 0, 1, .. in that order, all with one measure. */
    private static OlapCubes inARow(int facts, int measure) {
        OlapCubes x = new OlapCubes();
        for (int i = 0; i < facts; i++) {
            x.put(i, measure);
        }
        return x;
    }

    private static void newObject() {
        OlapCubes x = new OlapCubes();
        due("facts()", x.facts(), 0);
        due("measure(0, 0)", x.measure(0, 0), -1);
        due("drop(0)", x.drop(0), -1);
        for (int view = 0; view < 48; view++) {
            due("prepare(" + view + ")", x.prepare(view), 0);
            due("cellOf(" + view + ", 0)", x.cellOf(view, 0), -2);
            due("full(" + view + ")", x.full(view), 0);
            due("count(" + view + ", 0)", x.count(view, 0), 0);
            due("least(" + view + ", 0)", x.least(view, 0), 10000);
            due("most(" + view + ", 0)", x.most(view, 0), -10000);
            due("next(" + view + ", -1)", x.next(view, -1), -2);
            due("best(" + view + ")", x.best(view), -2);
            due("having(" + view + ", MIN)", x.having(view, MIN), 0);
        }
        due("viewsWith(0)", x.viewsWith(0), 48);
        due("put(0, 0), the first number", x.put(0, 0), 0);
    }

    private static void putWrongPlace() {
        OlapCubes x = new OlapCubes();
        for (int bad : BAD_PLACES) {
            due("put(" + bad + ", 0)", x.put(bad, 0), -1);
        }
        due("facts()", x.facts(), 0);
        due("put(0, 0)", x.put(0, 0), 0);
        due("put(191, 0)", x.put(191, 0), 1);
    }

    private static void putWrongMeasure() {
        OlapCubes x = new OlapCubes();
        for (int bad : BAD_MEASURES) {
            due("put(0, " + bad + ")", x.put(0, bad), -2);
        }
        due("facts()", x.facts(), 0);
        due("put(0, -1000)", x.put(0, -1000), 0);
        due("put(0, 1000)", x.put(0, 1000), 1);
        due("least(0, 0)", x.least(0, 0), -1000);
        due("most(0, 0)", x.most(0, 0), 1000);
    }

    private static void putNoRoom() {
        OlapCubes x = inARow(39, 1);
        due("put(60, 1), the 40th", x.put(60, 1), 39);
        due("put(61, 1), the 41st", x.put(61, 1), -3);
        due("facts()", x.facts(), 40);
        due("count(0, 61)", x.count(0, 61), 0);
        due("drop(0)", x.drop(0), 39);
        due("put(61, 1) after a drop", x.put(61, 1), 39);
        due("put(62, 1)", x.put(62, 1), -3);
    }

    private static void putNumber() {
        OlapCubes x = new OlapCubes();
        for (int i = 0; i < 40; i++) {
            due("put(7, " + i + ")", x.put(7, i), i);
        }
        for (int i = 39; i >= 0; i--) {
            due("drop(" + i + ")", x.drop(i), i);
        }
        due("put(7, 7), the first again", x.put(7, 7), 0);
    }

    private static void sowCount() {
        OlapCubes x = new OlapCubes();
        due("sow(3, 1, 1), the least count", x.sow(3, 1, 1), 1);
        due("cellOf(0, 0)", x.cellOf(0, 0), 3);
        due("cellOf(0, 1)", x.cellOf(0, 1), -2);
        OlapCubes y = new OlapCubes();
        due("sow(3, 1, 40), the greatest count", y.sow(3, 1, 40), 40);
        for (int k = 0; k < 40; k++) {
            due("cellOf(0, " + k + ")", y.cellOf(0, k), 3 + k);
        }
    }

    private static void sowRoom() {
        OlapCubes x = inARow(38, 1);
        due("sow(100, 1, 2), just room", x.sow(100, 1, 2), 40);
        due("cellOf(0, 38)", x.cellOf(0, 38), 100);
        due("cellOf(0, 39)", x.cellOf(0, 39), 101);
        OlapCubes y = inARow(38, 1);
        due("sow(100, 1, 3), room for two", y.sow(100, 1, 3), 40);
        due("cellOf(0, 39)", y.cellOf(0, 39), 101);
        due("count(0, 102)", y.count(0, 102), 0);
        due("sow(100, 1, 40), no room", y.sow(100, 1, 40), 40);
        due("sow(100, 1, 1), no room", y.sow(100, 1, 1), 40);
        due("count(0, 100)", y.count(0, 100), 1);
        OlapCubes z = inARow(1, 1);
        due("sow(100, 2, 40), room for 39", z.sow(100, 2, 40), 40);
        due("cellOf(0, 0)", z.cellOf(0, 0), 0);
        due("cellOf(0, 39)", z.cellOf(0, 39), 100 + 2 * 38);
    }

    private static void sowPlaces() {
        OlapCubes x = new OlapCubes();
        x.sow(0, 191, 3);
        due("0 + 1 * 191", x.cellOf(0, 1), 191);
        due("0 + 2 * 191 = 382", x.cellOf(0, 2), 190);
        x.sow(191, 1, 2);
        due("191 + 0 * 1", x.cellOf(0, 3), 191);
        due("191 + 1 * 1 = 192", x.cellOf(0, 4), 0);
        x.sow(190, 1, 4);
        due("190 + 1 * 1", x.cellOf(0, 6), 191);
        due("190 + 2 * 1 = 192", x.cellOf(0, 7), 0);
        due("190 + 3 * 1 = 193", x.cellOf(0, 8), 1);
        x.sow(96, 96, 4);
        due("96 + 1 * 96 = 192", x.cellOf(0, 10), 0);
        due("96 + 2 * 96 = 288", x.cellOf(0, 11), 96);
        due("96 + 3 * 96 = 384", x.cellOf(0, 12), 0);
        x.sow(17, 0, 2);
        due("17 + 1 * 0", x.cellOf(0, 14), 17);
        OlapCubes y = new OlapCubes();
        y.sow(191, 191, 40);
        due("191 + 39 * 191 = 7640", y.cellOf(0, 39), 152);
    }

    private static void sowMeasures() {
        OlapCubes x = new OlapCubes();
        x.sow(0, 0, 6);
        int[] first = {-100, -89, -56, -1, 76, 175};
        for (int k = 0; k < first.length; k++) {
            due("seed 0, k = " + k, x.measure(k, 0), first[k]);
        }
        x.sow(42, 0, 2);
        due("seed 42, k = 0: 294", x.measure(6, 0), 194);
        due("seed 42, k = 1: 305", x.measure(7, 0), -95);
        OlapCubes y = new OlapCubes();
        y.sow(191, 5, 40);
        due("seed 191, k = 0: 1337", y.measure(0, 0), 37);
        due("seed 191, k = 39: 18068", y.measure(39, 0), -32);
        OlapCubes z = inARow(1, 9);
        z.sow(1, 1, 2);
        due("seed 1, k begins at 0 whatever stands before", z.measure(1, 0), -93);
        due("seed 1, k = 1", z.measure(2, 0), -82);
    }

    private static void sowWrongSeed() {
        OlapCubes x = new OlapCubes();
        for (int bad : BAD_PLACES) {
            due("sow(" + bad + ", 1, 1)", x.sow(bad, 1, 1), -1);
        }
        due("facts()", x.facts(), 0);
        due("sow(0, 1, 1)", x.sow(0, 1, 1), 1);
        due("sow(191, 1, 1)", x.sow(191, 1, 1), 2);
        due("cellOf(0, 1)", x.cellOf(0, 1), 191);
        OlapCubes y = inARow(40, 1);
        due("sow(192, 1, 1), no room", y.sow(192, 1, 1), -1);
    }

    private static void sowWrongStep() {
        OlapCubes x = new OlapCubes();
        for (int bad : BAD_PLACES) {
            due("sow(1, " + bad + ", 1)", x.sow(1, bad, 1), -2);
        }
        due("facts()", x.facts(), 0);
        due("sow(1, 0, 2)", x.sow(1, 0, 2), 2);
        due("cellOf(0, 1)", x.cellOf(0, 1), 1);
        due("sow(1, 191, 2)", x.sow(1, 191, 2), 4);
        due("cellOf(0, 3)", x.cellOf(0, 3), 0);
        OlapCubes y = inARow(40, 1);
        due("sow(1, 192, 1), no room", y.sow(1, 192, 1), -2);
    }

    private static void sowWrongCount() {
        OlapCubes x = new OlapCubes();
        for (int bad : new int[] {0, -1, 41, -40, 42, 256, 65536, MIN, MAX}) {
            due("sow(1, 1, " + bad + ")", x.sow(1, 1, bad), -3);
        }
        due("facts()", x.facts(), 0);
        due("sow(1, 1, 40)", x.sow(1, 1, 40), 40);
        due("sow(1, 1, 41), no room", x.sow(1, 1, 41), -3);
        due("sow(1, 1, 0), no room", x.sow(1, 1, 0), -3);
    }

    private static void sowAnswer() {
        OlapCubes x = inARow(5, 1);
        due("sow(0, 1, 3)", x.sow(0, 1, 3), 8);
        due("sow(0, 1, 31)", x.sow(0, 1, 31), 39);
        due("sow(0, 1, 31), room for one", x.sow(0, 1, 31), 40);
        due("sow(0, 1, 31), no room", x.sow(0, 1, 31), 40);
        due("facts()", x.facts(), 40);
    }

    private static void measureNoFact() {
        OlapCubes x = new OlapCubes();
        due("measure(0, 5), no facts", x.measure(0, 5), -1);
        x = four();
        due("measure(3, 5), the last", x.measure(3, 5), -3);
        for (int bad : new int[] {-1, 4, 5, 39, 40, 256, 65536, MIN, MAX}) {
            due("measure(" + bad + ", 5)", x.measure(bad, 5), -1);
        }
        x.drop(3);
        due("measure(3, 5), dropped", x.measure(3, 5), -1);
        OlapCubes y = inARow(40, 1);
        due("measure(39, 5) of 40", y.measure(39, 5), 1);
        due("measure(40, 5) of 40", y.measure(40, 5), -1);
    }

    private static void measureWrong() {
        OlapCubes x = four();
        for (int bad : BAD_MEASURES) {
            due("measure(1, " + bad + ")", x.measure(1, bad), -2);
        }
        due("measure(1, 1000)", x.measure(1, 1000), 7);
        due("measure(1, -1000)", x.measure(1, -1000), 1000);
        due("measure(1, 0)", x.measure(1, 0), -1000);
    }

    private static void measureBefore() {
        OlapCubes x = four();
        due("measure(0, -1), the first", x.measure(0, -1), -1000);
        due("measure(0, -1), the same again", x.measure(0, -1), -1);
        due("measure(0, -2), one before that looks like a refusal", x.measure(0, -2), -1);
        due("measure(0, 0)", x.measure(0, 0), -2);
        due("measure(1, 8), one of two at a place", x.measure(1, 8), 7);
        due("measure(3, 0), the other", x.measure(3, 0), -3);
        due("sum(0, 100)", x.sum(0, 100), 8);
        due("cellOf(0, 1), where it was", x.cellOf(0, 1), 100);
        due("facts()", x.facts(), 4);
    }

    private static void dropLater() {
        for (int gone : new int[] {0, 1, 20, 38, 39}) {
            OlapCubes x = new OlapCubes();
            for (int i = 0; i < 40; i++) {
                x.put(2 * i, 10 * i);
            }
            x.drop(gone);
            for (int i = 0; i < 39; i++) {
                int was = i < gone ? i : i + 1;
                due("cellOf(0, " + i + ") after drop(" + gone + ")", x.cellOf(0, i), 2 * was);
                due("measure(" + i + ", 0) after drop(" + gone + ")", x.measure(i, 0), 10 * was);
            }
            due("cellOf(0, 39) after drop(" + gone + ")", x.cellOf(0, 39), -2);
            due("put(191, 3) after drop(" + gone + ")", x.put(191, 3), 39);
            due("cellOf(0, 39) after put(191, 3)", x.cellOf(0, 39), 191);
        }
    }

    private static void dropNoFact() {
        OlapCubes x = new OlapCubes();
        due("drop(0), no facts", x.drop(0), -1);
        x = four();
        for (int bad : new int[] {-1, 4, 5, 39, 40, 256, 65536, MIN, MAX}) {
            due("drop(" + bad + ")", x.drop(bad), -1);
        }
        due("facts()", x.facts(), 4);
        due("drop(3), the last", x.drop(3), 3);
        due("drop(3), gone", x.drop(3), -1);
        due("drop(40) of 40", inARow(40, 1).drop(40), -1);
    }

    private static void dropLeft() {
        OlapCubes x = inARow(40, 1);
        for (int left = 39; left >= 0; left--) {
            due("drop(0)", x.drop(0), left);
        }
        due("drop(0), none left", x.drop(0), -1);
        due("facts()", x.facts(), 0);
    }

    /** A run of changes with a view prepared between all of them, or with none prepared. */
    private static OlapCubes changed(boolean prepared, int view) {
        OlapCubes x = new OlapCubes();
        prepareIf(prepared, x, view);
        x.sow(5, 37, 20);
        prepareIf(prepared, x, view);
        x.put(191, 900);
        prepareIf(prepared, x, view);
        x.measure(3, -900);
        prepareIf(prepared, x, view);
        x.drop(0);
        prepareIf(prepared, x, -1);
        x.put(0, 50);
        x.measure(1, 77);
        x.drop(7);
        return x;
    }

    private static void prepareIf(boolean prepared, OlapCubes x, int view) {
        if (prepared) {
            x.prepare(view);
        }
    }

    private static void prepareTellsNothing() {
        for (int view = 0; view < 48; view++) {
            OlapCubes x = changed(true, view);
            OlapCubes y = changed(false, view);
            due("facts()", x.facts(), y.facts());
            due("full(" + view + ")", x.full(view), y.full(view));
            due("best(" + view + ")", x.best(view), y.best(view));
            due("having(" + view + ", 0)", x.having(view, 0), y.having(view, 0));
            due("viewsWith(1)", x.viewsWith(1), y.viewsWith(1));
            for (int fact = 0; fact < 20; fact++) {
                due("cellOf(" + view + ", " + fact + ")", x.cellOf(view, fact), y.cellOf(view, fact));
            }
            for (int after = -1; after < 192; after++) {
                due("next(" + view + ", " + after + ")", x.next(view, after), y.next(view, after));
            }
            cellsAlike(view);
        }
    }

    // Objects made anew, so that no object is asked more than 512 times.
    private static void cellsAlike(int view) {
        OlapCubes x = changed(true, view);
        OlapCubes y = changed(false, view);
        for (int cell = 0; cell < 192; cell++) {
            due("count(" + view + ", " + cell + ")", x.count(view, cell), y.count(view, cell));
            due("sum(" + view + ", " + cell + ")", x.sum(view, cell), y.sum(view, cell));
        }
        x = changed(true, view);
        y = changed(false, view);
        for (int cell = 0; cell < 192; cell++) {
            due("least(" + view + ", " + cell + ")", x.least(view, cell), y.least(view, cell));
            due("most(" + view + ", " + cell + ")", x.most(view, cell), y.most(view, cell));
        }
    }

    private static void prepareWrongView() {
        OlapCubes x = four();
        for (int bad : BAD_VIEWS) {
            due("prepare(" + bad + ")", x.prepare(bad), -1);
        }
        due("prepare(48), no facts", new OlapCubes().prepare(48), -1);
    }

    private static void prepareAnswer() {
        OlapCubes x = four();
        due("prepare(0)", x.prepare(0), 3);
        due("prepare(0) again", x.prepare(0), 3);
        due("prepare(47)", x.prepare(47), 1);
        x.drop(0);
        due("prepare(0) after a drop", x.prepare(0), 2);
        x.put(5, 5);
        due("prepare(0) after a put", x.prepare(0), 3);
        due("prepare(0), no facts", new OlapCubes().prepare(0), 0);
        due("prepare(0), 40 facts apart", inARow(40, 1).prepare(0), 40);
        due("prepare(47), 40 facts", inARow(40, 1).prepare(47), 1);
    }

    private static void factsEnds() {
        OlapCubes x = new OlapCubes();
        due("facts(), none", x.facts(), 0);
        for (int i = 1; i <= 40; i++) {
            x.put(8, 8);
            due("facts() after put " + i, x.facts(), i);
        }
        x.put(8, 8);
        due("facts() after a put without room", x.facts(), 40);
        x.sow(1, 1, 40);
        due("facts() after a sow without room", x.facts(), 40);
        for (int i = 39; i >= 0; i--) {
            x.drop(0);
            due("facts() after drop " + (40 - i), x.facts(), i);
        }
        x.drop(0);
        due("facts() after a drop of none", x.facts(), 0);
    }

    private static void cellOfWrongView() {
        OlapCubes x = four();
        for (int bad : BAD_VIEWS) {
            due("cellOf(" + bad + ", 0)", x.cellOf(bad, 0), -1);
            due("cellOf(" + bad + ", 4), no such fact either", x.cellOf(bad, 4), -1);
        }
        due("cellOf(0, 2)", x.cellOf(0, 2), 191);
        due("cellOf(47, 2)", x.cellOf(47, 2), 0);
    }

    private static void cellOfNoFact() {
        OlapCubes x = four();
        for (int bad : new int[] {-1, 4, 5, 39, 40, 256, 65536, MIN, MAX}) {
            due("cellOf(0, " + bad + ")", x.cellOf(0, bad), -2);
            due("cellOf(47, " + bad + ")", x.cellOf(47, bad), -2);
        }
        due("cellOf(0, 3), the last", x.cellOf(0, 3), 100);
        x.drop(0);
        due("cellOf(0, 3), no more", x.cellOf(0, 3), -2);
        due("cellOf(0, 0), no facts", new OlapCubes().cellOf(0, 0), -2);
        due("cellOf(0, 39) of 40", inARow(40, 1).cellOf(0, 39), 39);
        due("cellOf(0, 40) of 40", inARow(40, 1).cellOf(0, 40), -2);
    }

    private static void fullEnds() {
        due("full(0), no facts", new OlapCubes().full(0), 0);
        due("full(0), 40 facts apart", inARow(40, 1).full(0), 40);
        due("full(47), 40 facts", inARow(40, 1).full(47), 1);
        OlapCubes x = new OlapCubes();
        x.sow(9, 0, 40);
        due("full(0), 40 facts at one place", x.full(0), 1);
        OlapCubes y = new OlapCubes();
        y.put(place(0, 2, 0), 1);
        y.put(place(0, 3, 0), 1);
        due("full: 2 and 3 apart as b", y.full(view(0, 0, 0)), 2);
        due("full: 2 and 3 together as b / 2", y.full(view(0, 1, 0)), 1);
        due("full: 2 and 3 apart as b / 3", y.full(view(0, 2, 0)), 2);
        due("full: 2 and 3 together as 0", y.full(view(0, 3, 0)), 1);
    }

    private static void fullWrongView() {
        OlapCubes x = four();
        for (int bad : BAD_VIEWS) {
            due("full(" + bad + ")", x.full(bad), -1);
        }
        due("full(48), no facts", new OlapCubes().full(48), -1);
    }

    private static void countEnds() {
        OlapCubes x = four();
        due("count(0, 0), the first cell", x.count(0, 0), 1);
        due("count(0, 191), the last cell", x.count(0, 191), 1);
        due("count(0, 100)", x.count(0, 100), 2);
        due("count(0, 101), none", x.count(0, 101), 0);
        due("count(47, 0)", x.count(47, 0), 4);
        due("count(47, 1), a cell that nothing can fall into", x.count(47, 1), 0);
        due("count(47, 191), a cell that nothing can fall into", x.count(47, 191), 0);
        due("count(0, 0), no facts", new OlapCubes().count(0, 0), 0);
        due("count(47, 0), 40 facts", inARow(40, 1).count(47, 0), 40);
    }

    private static void countWrongView() {
        OlapCubes x = four();
        for (int bad : BAD_VIEWS) {
            due("count(" + bad + ", 0)", x.count(bad, 0), -1);
            due("count(" + bad + ", 192), the cell is wrong too", x.count(bad, 192), -1);
        }
    }

    private static void countWrongCell() {
        OlapCubes x = four();
        for (int bad : BAD_PLACES) {
            due("count(0, " + bad + ")", x.count(0, bad), -2);
            due("count(47, " + bad + ")", x.count(47, bad), -2);
        }
        due("count(0, 192), no facts", new OlapCubes().count(0, 192), -2);
    }

    private static void sumEnds() {
        due("sum(47, 0), the greatest there can be", inARow(40, 1000).sum(47, 0), 40000);
        due("sum(47, 0), the least there can be", inARow(40, -1000).sum(47, 0), -40000);
        OlapCubes x = four();
        due("sum(0, 0), the first cell", x.sum(0, 0), -1000);
        due("sum(0, 191), the last cell", x.sum(0, 191), 1000);
        due("sum(0, 100), two facts", x.sum(0, 100), 4);
        x.measure(3, -7);
        due("sum(0, 100), two that cancel out", x.sum(0, 100), 0);
    }

    private static void sumWrong() {
        OlapCubes x = inARow(40, 1000);
        for (int bad : BAD_VIEWS) {
            due("sum(" + bad + ", 0)", x.sum(bad, 0), 0);
            due("sum(" + bad + ", 192)", x.sum(bad, 192), 0);
        }
        for (int bad : BAD_PLACES) {
            due("sum(0, " + bad + ")", x.sum(0, bad), 0);
            due("sum(47, " + bad + ")", x.sum(47, bad), 0);
        }
    }

    private static void sumNone() {
        OlapCubes x = four();
        due("sum(0, 1)", x.sum(0, 1), 0);
        due("sum(0, 190)", x.sum(0, 190), 0);
        due("sum(47, 191)", x.sum(47, 191), 0);
        x.drop(2);
        due("sum(0, 191), dropped", x.sum(0, 191), 0);
        due("sum(0, 0), no facts", new OlapCubes().sum(0, 0), 0);
    }

    private static void leastEnds() {
        due("least(47, 0), all -1000", inARow(40, -1000).least(47, 0), -1000);
        due("least(47, 0), all 1000", inARow(40, 1000).least(47, 0), 1000);
        OlapCubes x = four();
        due("least(0, 100), the later", x.least(0, 100), -3);
        x.measure(3, 9);
        due("least(0, 100), the earlier", x.least(0, 100), 7);
        due("least(0, 0), the first cell", x.least(0, 0), -1000);
        due("least(0, 191), the last cell", x.least(0, 191), 1000);
        x.measure(1, 0);
        due("least(0, 100), 0", x.least(0, 100), 0);
    }

    private static void leastWrong() {
        OlapCubes x = inARow(40, -1000);
        for (int bad : BAD_VIEWS) {
            due("least(" + bad + ", 0)", x.least(bad, 0), 10000);
            due("least(" + bad + ", 192)", x.least(bad, 192), 10000);
        }
        for (int bad : BAD_PLACES) {
            due("least(0, " + bad + ")", x.least(0, bad), 10000);
            due("least(47, " + bad + ")", x.least(47, bad), 10000);
        }
    }

    private static void leastNone() {
        OlapCubes x = four();
        due("least(0, 1)", x.least(0, 1), 10000);
        due("least(0, 190)", x.least(0, 190), 10000);
        due("least(47, 191)", x.least(47, 191), 10000);
        x.drop(2);
        due("least(0, 191), dropped", x.least(0, 191), 10000);
        due("least(0, 0), no facts", new OlapCubes().least(0, 0), 10000);
    }

    private static void mostEnds() {
        due("most(47, 0), all 1000", inARow(40, 1000).most(47, 0), 1000);
        due("most(47, 0), all -1000", inARow(40, -1000).most(47, 0), -1000);
        OlapCubes x = four();
        due("most(0, 100), the earlier", x.most(0, 100), 7);
        x.measure(3, 9);
        due("most(0, 100), the later", x.most(0, 100), 9);
        due("most(0, 0), the first cell", x.most(0, 0), -1000);
        due("most(0, 191), the last cell", x.most(0, 191), 1000);
        x.measure(3, -1);
        x.measure(1, -2);
        due("most(0, 100), below 0", x.most(0, 100), -1);
    }

    private static void mostWrong() {
        OlapCubes x = inARow(40, 1000);
        for (int bad : BAD_VIEWS) {
            due("most(" + bad + ", 0)", x.most(bad, 0), -10000);
            due("most(" + bad + ", 192)", x.most(bad, 192), -10000);
        }
        for (int bad : BAD_PLACES) {
            due("most(0, " + bad + ")", x.most(0, bad), -10000);
            due("most(47, " + bad + ")", x.most(47, bad), -10000);
        }
    }

    private static void mostNone() {
        OlapCubes x = four();
        due("most(0, 1)", x.most(0, 1), -10000);
        due("most(0, 190)", x.most(0, 190), -10000);
        due("most(47, 191)", x.most(47, 191), -10000);
        x.drop(2);
        due("most(0, 191), dropped", x.most(0, 191), -10000);
        due("most(0, 0), no facts", new OlapCubes().most(0, 0), -10000);
    }

    private static void nextGreater() {
        OlapCubes x = four();
        for (int after = -1; after < 191; after++) {
            int want = after < 0 ? 0 : after < 100 ? 100 : 191;
            due("next(0, " + after + ")", x.next(0, after), want);
        }
        OlapCubes y = new OlapCubes();
        y.put(9, 1);
        y.put(5, 1);
        y.put(7, 1);
        due("next(0, 4), put in out of order", y.next(0, 4), 5);
        due("next(0, 5)", y.next(0, 5), 7);
        due("next(0, 7)", y.next(0, 7), 9);
    }

    private static void nextAnyInt() {
        OlapCubes x = four();
        for (int after : new int[] {MIN, MIN + 1, -65536, -192, -3, -2, -1}) {
            due("next(0, " + after + ")", x.next(0, after), 0);
            due("next(47, " + after + ")", x.next(47, after), 0);
        }
        for (int after : new int[] {191, 192, 256, 65536, MAX - 1, MAX}) {
            due("next(0, " + after + ")", x.next(0, after), -2);
            due("next(47, " + after + ")", x.next(47, after), -2);
        }
    }

    private static void nextWrongView() {
        OlapCubes x = four();
        for (int bad : BAD_VIEWS) {
            due("next(" + bad + ", -1)", x.next(bad, -1), -1);
            due("next(" + bad + ", 191), none either", x.next(bad, 191), -1);
        }
        due("next(48, -1), no facts", new OlapCubes().next(48, -1), -1);
    }

    private static void nextNone() {
        OlapCubes x = four();
        due("next(0, 191)", x.next(0, 191), -2);
        x.drop(2);
        due("next(0, 100), the last dropped", x.next(0, 100), -2);
        due("next(0, 99)", x.next(0, 99), 100);
        due("next(47, 0)", x.next(47, 0), -2);
        due("next(0, MIN), no facts", new OlapCubes().next(0, MIN), -2);
    }

    private static void bestGreatest() {
        OlapCubes x = four();
        due("best(0), 1000 at the last cell", x.best(0), 191);
        x.measure(0, 1000);
        x.measure(2, 999);
        due("best(0), 1000 at the first cell", x.best(0), 0);
        x.measure(1, 1000);
        x.measure(3, 1);
        due("best(0), 1000 and 1 together", x.best(0), 100);
        OlapCubes y = new OlapCubes();
        y.put(3, -1000);
        due("best(0), the least measure alone", y.best(0), 3);
        y.put(4, -999);
        due("best(0), all below 0", y.best(0), 4);
        y.put(4, -1000);
        due("best(0), sums count and not measures", y.best(0), 3);
        OlapCubes z = new OlapCubes();
        z.put(3, -1);
        z.put(8, 0);
        due("best(0), 0 in a full cell", z.best(0), 8);
        due("best(47), -40000", inARow(40, -1000).best(47), 0);
    }

    private static void bestAmongSeveral() {
        int[] measures = {-1000, -1, 0, 1, 1000};
        for (int measure : measures) {
            OlapCubes x = new OlapCubes();
            x.put(60, measure);
            x.put(191, measure);
            due("best(0), two alike, the least put in first", x.best(0), 60);
            x.put(59, measure);
            due("best(0), three alike, the least put in last", x.best(0), 59);
            x.put(61, measure);
            due("best(0), four alike", x.best(0), 59);
            x.drop(2);
            due("best(0), the least dropped", x.best(0), 60);
        }
        OlapCubes y = new OlapCubes();
        y.put(9, 10);
        y.put(2, 4);
        y.put(2, 6);
        y.put(1, 9);
        due("best(0), one fact and two with one sum", y.best(0), 2);
        due("best(0), 40 alike", inARow(40, -5).best(0), 0);
    }

    private static void bestWrongView() {
        OlapCubes x = four();
        for (int bad : BAD_VIEWS) {
            due("best(" + bad + ")", x.best(bad), -1);
        }
        due("best(-1), no facts", new OlapCubes().best(-1), -1);
        due("best(48), no facts", new OlapCubes().best(48), -1);
    }

    private static void bestNone() {
        OlapCubes x = new OlapCubes();
        due("best(0)", x.best(0), -2);
        due("best(47)", x.best(47), -2);
        x.put(0, 0);
        due("best(0), one fact", x.best(0), 0);
        x.drop(0);
        due("best(0), dropped", x.best(0), -2);
    }

    private static void havingAtLeast() {
        OlapCubes x = four();
        due("having(0, -1001)", x.having(0, -1001), 3);
        due("having(0, -1000), just the least sum", x.having(0, -1000), 3);
        due("having(0, -999)", x.having(0, -999), 2);
        due("having(0, 4), just a sum of two", x.having(0, 4), 2);
        due("having(0, 5)", x.having(0, 5), 1);
        due("having(0, 1000), just the greatest sum", x.having(0, 1000), 1);
        due("having(0, 1001)", x.having(0, 1001), 0);
        x.measure(1, 3);
        due("having(0, 0), a full cell with the sum 0", x.having(0, 0), 2);
        due("having(0, 1)", x.having(0, 1), 1);
        due("having(0, 0), no facts", new OlapCubes().having(0, 0), 0);
        due("having(0, 1), 40 cells", inARow(40, 1).having(0, 1), 40);
    }

    private static void havingAnyInt() {
        OlapCubes x = inARow(40, 1000);
        due("having(47, MIN)", x.having(47, MIN), 1);
        due("having(47, MIN + 1)", x.having(47, MIN + 1), 1);
        due("having(47, 40000)", x.having(47, 40000), 1);
        due("having(47, 40001)", x.having(47, 40001), 0);
        due("having(47, 65536)", x.having(47, 65536), 0);
        due("having(47, MAX)", x.having(47, MAX), 0);
        OlapCubes y = inARow(40, -1000);
        due("having(47, MIN), all below 0", y.having(47, MIN), 1);
        due("having(47, -40000)", y.having(47, -40000), 1);
        due("having(47, -39999)", y.having(47, -39999), 0);
        due("having(47, MAX - 1), all below 0", y.having(47, MAX - 1), 0);
        due("having(47, MAX), all below 0", y.having(47, MAX), 0);
        due("having(0, MIN), no facts", new OlapCubes().having(0, MIN), 0);
    }

    private static void havingWrongView() {
        OlapCubes x = four();
        for (int bad : BAD_VIEWS) {
            due("having(" + bad + ", 0)", x.having(bad, 0), -1);
            due("having(" + bad + ", MAX)", x.having(bad, MAX), -1);
            due("having(" + bad + ", MIN)", x.having(bad, MIN), -1);
        }
        due("having(48, 0), no facts", new OlapCubes().having(48, 0), -1);
    }

    private static void finerLevels() {
        OlapCubes x = new OlapCubes();
        for (int view = 0; view < 48; view++) {
            due("finer(" + view + ", " + view + ")", x.finer(view, view), 1);
            due("finer(0, " + view + ")", x.finer(0, view), 1);
            due("finer(" + view + ", 47)", x.finer(view, 47), 1);
            due("finer(" + view + ", 0)", x.finer(view, 0), view == 0 ? 1 : 0);
            due("finer(47, " + view + ")", x.finer(47, view), view == 47 ? 1 : 0);
        }
        due("finer: b / 2 and b / 3", x.finer(view(0, 1, 0), view(0, 2, 0)), 0);
        due("finer: b / 3 and b / 2", x.finer(view(0, 2, 0), view(0, 1, 0)), 0);
        due("finer: b / 2 and b / 3, coarser else", x.finer(view(0, 1, 0), view(2, 2, 3)), 0);
        due("finer: finer in a, coarser in c", x.finer(view(0, 0, 1), view(1, 0, 0)), 0);
        due("finer: finer in c, coarser in a", x.finer(view(1, 0, 0), view(0, 0, 1)), 0);
        due("finer: finer in a and c, coarser in b", x.finer(view(0, 3, 0), view(2, 2, 3)), 0);
        due("finer(0, 47), 40 facts", inARow(40, 1).finer(0, 47), 1);
        due("finer(47, 0), 40 facts", inARow(40, 1).finer(47, 0), 0);
    }

    /** Where each place falls in each view, as the class itself tells. */
    private static int[][] cellsOfPlaces() {
        int[][] cells = new int[48][192];
        for (int place = 0; place < 192; place++) {
            OlapCubes x = new OlapCubes();
            x.put(place, 0);
            for (int view = 0; view < 48; view++) {
                cells[view][place] = x.cellOf(view, 0);
            }
        }
        return cells;
    }

    private static boolean keepsTogether(int[] fine, int[] coarse) {
        for (int one = 0; one < 192; one++) {
            for (int other = 0; other < one; other++) {
                if (fine[one] == fine[other] && coarse[one] != coarse[other]) {
                    return false;
                }
            }
        }
        return true;
    }

    private static void finerPlaces() {
        int[][] cells = cellsOfPlaces();
        for (int fine = 0; fine < 48; fine++) {
            OlapCubes x = new OlapCubes();
            for (int coarse = 0; coarse < 48; coarse++) {
                int want = keepsTogether(cells[fine], cells[coarse]) ? 1 : 0;
                due("finer(" + fine + ", " + coarse + ")", x.finer(fine, coarse), want);
            }
        }
    }

    private static void finerWrong() {
        OlapCubes x = four();
        for (int bad : BAD_VIEWS) {
            due("finer(" + bad + ", 0)", x.finer(bad, 0), -1);
            due("finer(" + bad + ", 47)", x.finer(bad, 47), -1);
            due("finer(0, " + bad + ")", x.finer(0, bad), -1);
            due("finer(47, " + bad + ")", x.finer(47, bad), -1);
            due("finer(" + bad + ", " + bad + ")", x.finer(bad, bad), -1);
        }
        due("finer(-1, 48)", x.finer(-1, 48), -1);
        due("finer(48, -1)", x.finer(48, -1), -1);
    }

    private static void viewsWithEnds() {
        OlapCubes none = new OlapCubes();
        due("viewsWith(0), no facts", none.viewsWith(0), 48);
        OlapCubes one = inARow(1, 0);
        due("viewsWith(0), one fact", one.viewsWith(0), 0);
        due("viewsWith(1), one fact", one.viewsWith(1), 48);
        OlapCubes ends = new OlapCubes();
        ends.put(0, 0);
        ends.put(191, 0);
        due("viewsWith(1), the first and the last place", ends.viewsWith(1), 1);
        due("viewsWith(2), the first and the last place", ends.viewsWith(2), 47);
        OlapCubes forty = inARow(40, 0);
        due("viewsWith(40), 40 facts apart where b and c are finest", forty.viewsWith(40), 3);
        for (int cells = 41; cells <= 192; cells++) {
            due("viewsWith(" + cells + "), more than there are facts", forty.viewsWith(cells), 0);
        }
        for (int cells = 1; cells <= 192; cells++) {
            due("viewsWith(" + cells + "), no facts", none.viewsWith(cells), 0);
        }
        int views = 0;
        for (int cells = 0; cells <= 192; cells++) {
            views += forty.viewsWith(cells);
        }
        due("viewsWith over all of 0 .. 192", views, 48);
    }

    private static void viewsWithWrong() {
        OlapCubes x = four();
        OlapCubes y = new OlapCubes();
        for (int bad : new int[] {-1, 193, -2, -192, 194, 256, 65536, MIN, MIN + 1, MAX}) {
            due("viewsWith(" + bad + ")", x.viewsWith(bad), -1);
            due("viewsWith(" + bad + "), no facts", y.viewsWith(bad), -1);
        }
        due("viewsWith(0)", x.viewsWith(0), 0);
        due("viewsWith(192)", x.viewsWith(192), 0);
        due("viewsWith(192), no facts", y.viewsWith(192), 0);
    }

    private static void sownMeasureEnds() {
        OlapCubes x = new OlapCubes();
        x.sow(0, 0, 1);
        due("0 leaves 0, the least", x.measure(0, 0), -100);
        x.sow(127, 0, 2);
        due("127 * 7 + 11 = 900 leaves 0, the least", x.measure(2, 0), -100);
        x.sow(84, 0, 2);
        due("84 * 7 + 11 = 599 leaves 299, the greatest", x.measure(4, 0), 199);
        x.sow(157, 0, 1);
        due("157 * 7 = 1099 leaves 199", x.measure(5, 0), 99);
        x.sow(100, 0, 1);
        due("100 * 7 = 700 leaves 100", x.measure(6, 0), 0);
        for (int seed = 0; seed < 192; seed++) {
            OlapCubes y = new OlapCubes();
            y.sow(seed, 0, 40);
            for (int k = 0; k < 40; k++) {
                int whole = seed * 7 + k * k * 11;
                int left = whole - 300 * (whole / 300);
                due("measure(" + k + ", 0) after sow(" + seed + ", 0, 40)", y.measure(k, 0), left - 100);
            }
        }
    }
}
