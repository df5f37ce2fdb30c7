/** Facts with three coordinates, summed up over boxes of every coarseness. */
public final class OlapCubes {
    private static final int MOST_FACTS = 40;
    private static final int PLACES = 192;
    private static final int VIEWS = 48;
    private static final int GREATEST_MEASURE = 1000;

    // A place and a cell are written alike: A_STEP * a + B_STEP * b + c.
    private static final int A_STEP = 48;
    private static final int B_STEP = 8;

    private static final int NO_LEAST = 10000;
    private static final int NO_MOST = -10000;

    private final int[] places = new int[MOST_FACTS];
    private final int[] measures = new int[MOST_FACTS];
    private int size;

    public OlapCubes() {
        size = 0;
    }

    public int put(int place, int measure) {
        if (!isPlace(place)) {
            return -1;
        }
        if (!isMeasure(measure)) {
            return -2;
        }
        if (size >= MOST_FACTS) {
            return -3;
        }
        append(place, measure);
        return size - 1;
    }

    public int sow(int seed, int step, int count) {
        if (!isPlace(seed)) {
            return -1;
        }
        if (!isPlace(step)) {
            return -2;
        }
        if (count < 1 || count > MOST_FACTS) {
            return -3;
        }
        for (int k = 0; k < count && size < MOST_FACTS; k++) {
            append((seed + k * step) % PLACES, (seed * 7 + k * k * 11) % 300 - 100);
        }
        return size;
    }

    public int measure(int fact, int measure) {
        if (!isFact(fact)) {
            return -1;
        }
        if (!isMeasure(measure)) {
            return -2;
        }
        int before = measures[fact];
        measures[fact] = measure;
        return before;
    }

    public int drop(int fact) {
        if (!isFact(fact)) {
            return -1;
        }
        for (int i = fact; i < size - 1; i++) {
            places[i] = places[i + 1];
            measures[i] = measures[i + 1];
        }
        size--;
        return size;
    }

    // Nothing is kept for a prepared view: every question reads the facts
    // themselves, so no answer can come to depend on what was prepared.
    public int prepare(int view) {
        if (!isView(view)) {
            return -1;
        }
        return fullCells(view);
    }

    public int facts() {
        return size;
    }

    public int cellOf(int view, int fact) {
        if (!isView(view)) {
            return -1;
        }
        if (!isFact(fact)) {
            return -2;
        }
        return cellAt(view, places[fact]);
    }

    public int full(int view) {
        if (!isView(view)) {
            return -1;
        }
        return fullCells(view);
    }

    public int count(int view, int cell) {
        if (!isView(view)) {
            return -1;
        }
        if (!isCell(cell)) {
            return -2;
        }
        int found = 0;
        for (int i = 0; i < size; i++) {
            if (cellAt(view, places[i]) == cell) {
                found++;
            }
        }
        return found;
    }

    public int sum(int view, int cell) {
        if (!isView(view) || !isCell(cell)) {
            return 0;
        }
        return total(view, cell);
    }

    public int least(int view, int cell) {
        if (!isView(view) || !isCell(cell)) {
            return NO_LEAST;
        }
        int found = NO_LEAST;
        for (int i = 0; i < size; i++) {
            if (cellAt(view, places[i]) == cell && measures[i] < found) {
                found = measures[i];
            }
        }
        return found;
    }

    public int most(int view, int cell) {
        if (!isView(view) || !isCell(cell)) {
            return NO_MOST;
        }
        int found = NO_MOST;
        for (int i = 0; i < size; i++) {
            if (cellAt(view, places[i]) == cell && measures[i] > found) {
                found = measures[i];
            }
        }
        return found;
    }

    public int next(int view, int after) {
        if (!isView(view)) {
            return -1;
        }
        int found = -2;
        for (int i = 0; i < size; i++) {
            int cell = cellAt(view, places[i]);
            if (cell > after && (found < 0 || cell < found)) {
                found = cell;
            }
        }
        return found;
    }

    public int best(int view) {
        if (!isView(view)) {
            return -1;
        }
        int found = -2;
        int foundTotal = 0;
        for (int i = 0; i < size; i++) {
            int cell = cellAt(view, places[i]);
            int cellTotal = total(view, cell);
            if (found < 0 || cellTotal > foundTotal || (cellTotal == foundTotal && cell < found)) {
                found = cell;
                foundTotal = cellTotal;
            }
        }
        return found;
    }

    public int having(int view, int bound) {
        if (!isView(view)) {
            return -1;
        }
        int found = 0;
        for (int i = 0; i < size; i++) {
            int cell = cellAt(view, places[i]);
            if (isFirstInCell(view, i) && total(view, cell) >= bound) {
                found++;
            }
        }
        return found;
    }

    public int finer(int fine, int coarse) {
        if (!isView(fine) || !isView(coarse)) {
            return -1;
        }
        int fineB = levelOfB(fine);
        int coarseB = levelOfB(coarse);
        boolean finerInA = levelOfA(fine) <= levelOfA(coarse);
        boolean finerInB = isFinerInB(fineB, coarseB);
        boolean finerInC = levelOfC(fine) <= levelOfC(coarse);
        return finerInA && finerInB && finerInC ? 1 : 0;
    }

    public int viewsWith(int cells) {
        if (cells < 0 || cells > PLACES) {
            return -1;
        }
        int found = 0;
        for (int view = 0; view < VIEWS; view++) {
            if (fullCells(view) == cells) {
                found++;
            }
        }
        return found;
    }

    private boolean isFact(int fact) {
        return fact >= 0 && fact < size;
    }

    private static boolean isPlace(int place) {
        return place >= 0 && place < PLACES;
    }

    private static boolean isCell(int cell) {
        return cell >= 0 && cell < PLACES;
    }

    private static boolean isView(int view) {
        return view >= 0 && view < VIEWS;
    }

    private static boolean isMeasure(int measure) {
        return measure >= -GREATEST_MEASURE && measure <= GREATEST_MEASURE;
    }

    // Only for callers that have seen that there is room.
    private void append(int place, int measure) {
        places[size] = place;
        measures[size] = measure;
        size++;
    }

    private int total(int view, int cell) {
        int found = 0;
        for (int i = 0; i < size; i++) {
            if (cellAt(view, places[i]) == cell) {
                found += measures[i];
            }
        }
        return found;
    }

    // A full cell has just one first fact, so counting first facts counts
    // every full cell once.
    private int fullCells(int view) {
        int found = 0;
        for (int i = 0; i < size; i++) {
            if (isFirstInCell(view, i)) {
                found++;
            }
        }
        return found;
    }

    private boolean isFirstInCell(int view, int fact) {
        int cell = cellAt(view, places[fact]);
        for (int i = 0; i < fact; i++) {
            if (cellAt(view, places[i]) == cell) {
                return false;
            }
        }
        return true;
    }

    private static int cellAt(int view, int place) {
        int levelA = levelOfA(view);
        int levelB = levelOfB(view);
        int levelC = levelOfC(view);
        int seenA = seenAsA(levelA, place / A_STEP);
        int seenB = seenAsB(levelB, place % A_STEP / B_STEP);
        int seenC = seenAsC(levelC, place % B_STEP);
        return A_STEP * seenA + B_STEP * seenB + seenC;
    }

    private static int levelOfA(int view) {
        return view / 16;
    }

    private static int levelOfB(int view) {
        return view / 4 % 4;
    }

    private static int levelOfC(int view) {
        return view % 4;
    }

    private static int seenAsA(int level, int a) {
        switch (level) {
            case 0:
                return a;
            case 1:
                return a / 2;
            default:
                return 0;
        }
    }

    private static int seenAsB(int level, int b) {
        switch (level) {
            case 0:
                return b;
            case 1:
                return b / 2;
            case 2:
                return b / 3;
            default:
                return 0;
        }
    }

    private static int seenAsC(int level, int c) {
        switch (level) {
            case 0:
                return c;
            case 1:
                return c / 2;
            case 2:
                return c / 4;
            default:
                return 0;
        }
    }

    // The halves and the thirds of b cut across each other, so unlike those
    // of a and c the levels of b are not a chain.
    private static boolean isFinerInB(int fine, int coarse) {
        return fine == 0 || coarse == 3 || fine == coarse;
    }
}
