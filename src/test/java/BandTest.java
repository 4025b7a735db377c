/** Promises 19 and 20: bands and band. */
public final class BandTest {
    private static final Check CHECK = new Check();

    public static void main(String[] args) {
        cutBySize();
        alikeSizesByNumbers();
        severalWaysAlike();
        refused();
        CHECK.end("BandTest");
    }

    private static void bandsOf(DrawBench bench, int k, int sum, int... want) {
        CHECK.due("bands " + k, bench.bands(k), sum);
        for (int i = 0; i < want.length; i++) {
            CHECK.due("band(" + k + ", " + i + ")", bench.band(k, i), want[i]);
        }
    }

    /** In the order of SIZES: NAMES 3, 1, 0, 2 with WORTHS 1, 2, 50, 52. */
    private static void cutBySize() {
        DrawBench bench = Check.benchOf(50, 30, 0, 0, 2, 20, 0, 0, 52, 40, 0, 0, 1, 10, 0, 0);
        bandsOf(bench, 1, 4 * (1 + 4 + 2500 + 2704) - 105 * 105, 0, 0, 0, 0);
        bandsOf(bench, 2, 1 + 4, 1, 0, 1, 0);
        bandsOf(bench, 3, 1, 1, 0, 2, 0);
        bandsOf(bench, 4, 0, 2, 1, 3, 0);
    }

    private static void alikeSizesByNumbers() {
        DrawBench bench = Check.benchOf(0, 9, 0, 0, 0, 9, 0, 0, 80, 9, 0, 0, 80, 9, 0, 0);
        bandsOf(bench, 2, 0, 0, 0, 1, 1);
        bandsOf(bench, 4, 0, 0, 1, 2, 3);
    }

    /** Of WORTHS all the same every way has the sum 0: the first BANDS have one NAME each. */
    private static void severalWaysAlike() {
        DrawBench bench = Check.benchOf(
            7, 1, 0, 0, 7, 2, 0, 0, 7, 3, 0, 0, 7, 4, 0, 0, 7, 5, 0, 0);
        bandsOf(bench, 2, 0, 0, 1, 1, 1, 1);
        bandsOf(bench, 3, 0, 0, 1, 2, 2, 2);
        bandsOf(bench, 5, 0, 0, 1, 2, 3, 4);
        DrawBench mirrored = Check.benchOf(-3, 1, 0, 0, 0, 1, 0, 0, 3, 1, 0, 0);
        bandsOf(mirrored, 2, 9, 0, 1, 1);
        DrawBench later = Check.benchOf(90, 1, 0, 0, -3, 2, 0, 0, 0, 3, 0, 0, 3, 4, 0, 0);
        bandsOf(later, 3, 9, 0, 1, 2, 2);
    }

    private static void refused() {
        DrawBench bench = Check.benchOf(50, 30, 0, 0, 2, 20, 0, 0, 52, 40, 0, 0);
        bench.heap(0);
        String result = Check.resultOf(bench);
        int[] strange = {-1, 0, 4, Integer.MIN_VALUE, Integer.MAX_VALUE};
        for (int k : strange) {
            CHECK.due("bands " + k, bench.bands(k), -1);
            CHECK.due("band(" + k + ", 0)", bench.band(k, 0), -1);
        }
        int[] strangeNames = {-1, 3, Integer.MIN_VALUE, Integer.MAX_VALUE};
        for (int i : strangeNames) {
            CHECK.due("band(2, " + i + ")", bench.band(2, i), DrawBench.NONE);
        }
        CHECK.due("bands(3)", bench.bands(3), 0);
        CHECK.due("band(1, 2)", bench.band(1, 2), 0);
        CHECK.result("no call of these changes it", bench, result);
    }
}
