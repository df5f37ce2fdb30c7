import java.util.ArrayList;
import java.util.Collections;
import java.util.List;
import java.util.Map;
import java.util.TreeMap;

/**
 * Runs of 512 calls, good and bad ones mixed, held against a model that keeps
 * a list of facts and sorts them into cells from tables.
 */
public final class ModelTest {
    private static final int RUNS = 400;
    private static final int CALLS = 512;
    private static final int[][] SEEN_A = {{0, 1, 2, 3}, {0, 0, 1, 1}, {0, 0, 0, 0}};
    private static final int[][] SEEN_B = {
        {0, 1, 2, 3, 4, 5}, {0, 0, 1, 1, 2, 2}, {0, 0, 0, 1, 1, 1}, {0, 0, 0, 0, 0, 0}};
    private static final int[][] SEEN_C = {
        {0, 1, 2, 3, 4, 5, 6, 7}, {0, 0, 1, 1, 2, 2, 3, 3},
        {0, 0, 0, 0, 1, 1, 1, 1}, {0, 0, 0, 0, 0, 0, 0, 0}};

    /** A fact is {place, measure}. */
    private final List<int[]> facts = new ArrayList<>();
    private final OlapCubes cubes = new OlapCubes();
    private final int run;
    private long state;

    private static int wrong = 0;

    private ModelTest(int run) {
        this.run = run;
        this.state = run * 7919L + 1;
    }

    public static void main(String[] args) {
        for (int run = 0; run < RUNS; run++) {
            ModelTest test = new ModelTest(run);
            for (int call = 0; call < CALLS; call++) {
                test.step(call);
            }
        }
        System.out.println(wrong == 0 ? "all answers are as due" : wrong + " answers are not as due");
        if (wrong != 0) {
            System.exit(1);
        }
    }

    /** A number below bound; the same in every run of the test. */
    private int pick(int bound) {
        state = state * 6364136223846793005L + 1442695040888963407L;
        return (int) ((state >>> 33) % bound);
    }

    /** A number low .. high; one time in twelve one just or far outside. */
    private int pick(int low, int high) {
        if (pick(12) == 0) {
            int[] outside = {low - 1, high + 1, Integer.MIN_VALUE, Integer.MAX_VALUE};
            return outside[pick(4)];
        }
        int[] edges = {low, high};
        return pick(8) == 0 ? edges[pick(2)] : low + pick(high - low + 1);
    }

    /** Few places in some runs, so that cells hold many facts. */
    private int pickPlace() {
        return run % 3 == 0 && pick(4) > 0 ? pick(6) * 37 : pick(0, 191);
    }

    private int pickMeasure() {
        return run % 2 == 0 && pick(4) > 0 ? pick(5) - 2 : pick(-1000, 1000);
    }

    private int pickFact() {
        return pick(0, facts.isEmpty() ? 0 : facts.size() - 1);
    }

    private int pickFullOrAnyCell(int view) {
        if (isIn(view, 0, 47) && !facts.isEmpty() && pick(3) > 0) {
            return cell(view, facts.get(pick(facts.size()))[0]);
        }
        return pick(0, 191);
    }

    private void step(int call) {
        int view = pick(0, 47);
        int cell = pickFullOrAnyCell(view);
        switch (pick(20)) {
            case 0: case 1: case 2: {
                int place = pickPlace();
                int measure = pickMeasure();
                due(call, "put(" + place + ", " + measure + ")", cubes.put(place, measure), put(place, measure));
                break;
            }
            case 3: {
                int seed = pick(0, 191);
                int step = pick(0, 191);
                int count = pick(3) > 0 ? 1 + pick(4) : pick(1, 40);
                due(call, "sow(" + seed + ", " + step + ", " + count + ")",
                    cubes.sow(seed, step, count), sow(seed, step, count));
                break;
            }
            case 4: {
                int fact = pickFact();
                int measure = pickMeasure();
                due(call, "measure(" + fact + ", " + measure + ")",
                    cubes.measure(fact, measure), measure(fact, measure));
                break;
            }
            case 5: case 6: case 7: {
                int fact = pickFact();
                due(call, "drop(" + fact + ")", cubes.drop(fact), drop(fact));
                break;
            }
            case 8:
                due(call, "prepare(" + view + ")", cubes.prepare(view), full(view));
                break;
            case 9:
                due(call, "facts()", cubes.facts(), facts.size());
                break;
            case 10: {
                int fact = pickFact();
                due(call, "cellOf(" + view + ", " + fact + ")", cubes.cellOf(view, fact), cellOf(view, fact));
                break;
            }
            case 11:
                due(call, "full(" + view + ")", cubes.full(view), full(view));
                break;
            case 12:
                due(call, "count(" + view + ", " + cell + ")", cubes.count(view, cell), count(view, cell));
                break;
            case 13:
                due(call, "sum(" + view + ", " + cell + ")", cubes.sum(view, cell),
                    measuresIn(view, cell).stream().mapToInt(Integer::intValue).sum());
                break;
            case 14: {
                List<Integer> found = measuresIn(view, cell);
                due(call, "least(" + view + ", " + cell + ")", cubes.least(view, cell),
                    found.isEmpty() ? 10000 : Collections.min(found));
                break;
            }
            case 15: {
                List<Integer> found = measuresIn(view, cell);
                due(call, "most(" + view + ", " + cell + ")", cubes.most(view, cell),
                    found.isEmpty() ? -10000 : Collections.max(found));
                break;
            }
            case 16:
                due(call, "next(" + view + ", " + cell + ")", cubes.next(view, cell), next(view, cell));
                break;
            case 17:
                due(call, "best(" + view + ")", cubes.best(view), best(view));
                break;
            case 18: {
                int bound = pick(2) == 0 ? pick(5) - 2 : pick(-1200, 1200);
                due(call, "having(" + view + ", " + bound + ")", cubes.having(view, bound), having(view, bound));
                break;
            }
            default: {
                int cells = pick(2) == 0 ? pick(12) : pick(0, 192);
                int coarse = pick(0, 47);
                if (pick(2) == 0) {
                    due(call, "viewsWith(" + cells + ")", cubes.viewsWith(cells), viewsWith(cells));
                } else {
                    due(call, "finer(" + view + ", " + coarse + ")",
                        cubes.finer(view, coarse), finer(view, coarse));
                }
            }
        }
    }

    private void due(int call, String text, int got, int want) {
        if (got != want) {
            wrong++;
            System.out.println("run " + run + ", call " + call + ": " + text
                + " answered " + got + ", due is " + want);
        }
    }

    private static boolean isIn(int number, int low, int high) {
        return number >= low && number <= high;
    }

    private static int cell(int view, int place) {
        return 48 * SEEN_A[view / 16][place / 48] + 8 * SEEN_B[view / 4 % 4][place / 8 % 6]
            + SEEN_C[view % 4][place % 8];
    }

    private TreeMap<Integer, Integer> sums(int view) {
        TreeMap<Integer, Integer> sums = new TreeMap<>();
        for (int[] fact : facts) {
            sums.merge(cell(view, fact[0]), fact[1], Integer::sum);
        }
        return sums;
    }

    /** Empty for a bad view or cell, as no fact falls there. */
    private List<Integer> measuresIn(int view, int cell) {
        List<Integer> found = new ArrayList<>();
        for (int[] fact : facts) {
            if (isIn(view, 0, 47) && cell(view, fact[0]) == cell) {
                found.add(fact[1]);
            }
        }
        return found;
    }

    private int put(int place, int measure) {
        if (!isIn(place, 0, 191)) {
            return -1;
        }
        if (!isIn(measure, -1000, 1000)) {
            return -2;
        }
        if (facts.size() == 40) {
            return -3;
        }
        facts.add(new int[] {place, measure});
        return facts.size() - 1;
    }

    private int sow(int seed, int step, int count) {
        if (!isIn(seed, 0, 191)) {
            return -1;
        }
        if (!isIn(step, 0, 191)) {
            return -2;
        }
        if (!isIn(count, 1, 40)) {
            return -3;
        }
        for (int k = 0; k < count; k++) {
            put(Math.floorMod(seed + k * step, 192), Math.floorMod(seed * 7 + k * k * 11, 300) - 100);
        }
        return facts.size();
    }

    private int measure(int fact, int measure) {
        if (!isIn(fact, 0, facts.size() - 1)) {
            return -1;
        }
        if (!isIn(measure, -1000, 1000)) {
            return -2;
        }
        int before = facts.get(fact)[1];
        facts.get(fact)[1] = measure;
        return before;
    }

    private int drop(int fact) {
        if (!isIn(fact, 0, facts.size() - 1)) {
            return -1;
        }
        facts.remove(fact);
        return facts.size();
    }

    private int cellOf(int view, int fact) {
        if (!isIn(view, 0, 47)) {
            return -1;
        }
        return isIn(fact, 0, facts.size() - 1) ? cell(view, facts.get(fact)[0]) : -2;
    }

    private int full(int view) {
        return isIn(view, 0, 47) ? sums(view).size() : -1;
    }

    private int count(int view, int cell) {
        if (!isIn(view, 0, 47)) {
            return -1;
        }
        return isIn(cell, 0, 191) ? measuresIn(view, cell).size() : -2;
    }

    private int next(int view, int after) {
        if (!isIn(view, 0, 47)) {
            return -1;
        }
        Integer found = sums(view).higherKey(after);
        return found == null ? -2 : found;
    }

    private int best(int view) {
        if (!isIn(view, 0, 47)) {
            return -1;
        }
        Map<Integer, Integer> sums = sums(view);
        if (sums.isEmpty()) {
            return -2;
        }
        int greatest = Collections.max(sums.values());
        return sums.keySet().stream().filter(cell -> sums.get(cell) == greatest).findFirst().get();
    }

    private int having(int view, int bound) {
        return isIn(view, 0, 47) ? (int) sums(view).values().stream().filter(sum -> sum >= bound).count() : -1;
    }

    /** By the document's own words: any two places together in fine are together in coarse. */
    private int finer(int fine, int coarse) {
        if (!isIn(fine, 0, 47) || !isIn(coarse, 0, 47)) {
            return -1;
        }
        for (int one = 0; one < 192; one++) {
            for (int other = 0; other < one; other++) {
                if (cell(fine, one) == cell(fine, other) && cell(coarse, one) != cell(coarse, other)) {
                    return 0;
                }
            }
        }
        return 1;
    }

    private int viewsWith(int cells) {
        if (!isIn(cells, 0, 192)) {
            return -1;
        }
        int found = 0;
        for (int view = 0; view < 48; view++) {
            found += full(view) == cells ? 1 : 0;
        }
        return found;
    }
}
