/** The example of README.md, call by call. */
public final class ReadmeTest {
    private static int wrong = 0;

    public static void main(String[] args) {
        OlapCubes cubes = new OlapCubes();
        due("put(67, 50)", cubes.put(67, 50), 0);
        due("put(74, -70)", cubes.put(74, -70), 1);
        due("put(191, 10)", cubes.put(191, 10), 2);
        int view = 16 * 0 + 4 * 1 + 1;
        int cell = cubes.cellOf(view, 0);
        due("cellOf(view, 0)", cell, 57);
        due("cellOf(view, 1)", cubes.cellOf(view, 1), cell);
        due("sum(view, cell)", cubes.sum(view, cell), -20);
        due("best(view)", cubes.best(view), 163);
        due("cellOf(view, 2)", cubes.cellOf(view, 2), 163);
        due("next(view, -1)", cubes.next(view, -1), 57);
        due("next(view, 57)", cubes.next(view, 57), 163);
        due("next(view, 163)", cubes.next(view, 163), -2);
        due("full(0)", cubes.full(0), 3);
        due("put(192, 0)", cubes.put(192, 0), -1);
        System.out.println(wrong == 0 ? "all answers are as due" : wrong + " answers are not as due");
        if (wrong != 0) {
            System.exit(1);
        }
    }

    private static void due(String call, int got, int want) {
        if (got != want) {
            wrong++;
            System.out.println(call + " answered " + got + ", due is " + want);
        }
    }
}
