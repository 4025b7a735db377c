/** Promises 19 and 20, and what "Terms" says of BANDS. */
public final class BandTest {
    private static final Check CHECK = new Check();

    public static void main(String[] args) {
        orderOfSizes();
        alikeSizesByNumbers();
        oneNameOrMore();
        leastSum();
        severalWays();
        sumOfBands();
        noSuchSum();
        bandOfNames();
        noSuchBand();
        CHECK.end("BandTest");
    }

    private static void bandsAre(DrawBench bench, int k, int sum, int... want) {
        CHECK.due("bands " + k, bench.bands(k), sum);
        for (int i = 0; i < want.length; i++) {
            CHECK.due("band(" + k + ", " + i + ")", bench.band(k, i), want[i]);
        }
    }

    /** In the order of SIZES: NAMES 3, 1, 0, 2 with WORTHS 1, 2, 50, 52. */
    private static DrawBench four() {
        return Check.benchOf(50, 30, 0, 0, 2, 20, 0, 0, 52, 50, 0, 0, 1, 1, 0, 0);
    }

    private static void orderOfSizes() {
        CHECK.terms("BANDS: the NAMES in the order of their SIZES [..] are cut into k BANDS");
        DrawBench bench = four();
        bandsAre(bench, 2, 1 + 4, 1, 0, 1, 0);
        bandsAre(bench, 3, 1, 1, 0, 2, 0);
        bandsAre(bench, 4, 0, 2, 1, 3, 0);
    }

    private static void alikeSizesByNumbers() {
        CHECK.terms("(of alike ones by numbers)");
        DrawBench bench = Check.benchOf(0, 9, 0, 0, 0, 9, 0, 0, 80, 9, 0, 0, 80, 9, 0, 0);
        bandsAre(bench, 2, 0, 0, 0, 1, 1);
        bandsAre(bench, 4, 0, 0, 1, 2, 3);
        DrawBench some = Check.benchOf(0, 9, 0, 0, 0, 50, 0, 0, 0, 9, 0, 0, 0, 1, 0, 0, 0, 50, 0, 0);
        bandsAre(some, 5, 0, 1, 3, 2, 0, 4);
        DrawBench ten = Check.benchOf(Check.alike(10, -100, 50, 0, 0));
        bandsAre(ten, 10, 0, 0, 1, 2, 3, 4, 5, 6, 7, 8, 9);
    }

    private static void oneNameOrMore() {
        CHECK.terms("each of one NAME or more that stand one behind the other");
        // WORTHS 0, 90, 0: two BANDS may not be the alike ones and the other
        DrawBench bench = Check.benchOf(0, 1, 0, 0, 90, 2, 0, 0, 0, 3, 0, 0);
        bandsAre(bench, 2, 8100, 0, 1, 1);
        bandsAre(bench, 3, 0, 0, 1, 2);
        // no BAND is empty, though all sums are 0
        DrawBench flat = Check.benchOf(Check.alike(3, 7, 1, 0, 0));
        bandsAre(flat, 1, 0, 0, 0, 0);
        bandsAre(flat, 2, 0, 0, 1, 1);
        bandsAre(flat, 3, 0, 0, 1, 2);
    }

    private static void leastSum() {
        CHECK.terms("so that the sum over BANDS of (N * (sum of squares of WORTHS) - (square of the sum of "
            + "WORTHS)) is least");
        bandsAre(four(), 1, 4 * (1 + 4 + 2500 + 2704) - 105 * 105, 0, 0, 0, 0);
        DrawBench tail = Check.benchOf(1, 1, 0, 0, 1, 2, 0, 0, 1, 3, 0, 0, 99, 4, 0, 0);
        bandsAre(tail, 2, 0, 0, 0, 0, 1);
        DrawBench head = Check.benchOf(99, 1, 0, 0, 1, 2, 0, 0, 1, 3, 0, 0, 1, 4, 0, 0);
        bandsAre(head, 2, 0, 0, 1, 1, 1);
        DrawBench middle = Check.benchOf(1, 1, 0, 0, 50, 2, 0, 0, 51, 3, 0, 0, 99, 4, 0, 0, 97, 5, 0, 0);
        bandsAre(middle, 3, 1 + 4, 0, 1, 1, 2, 2);
        bandsAre(middle, 4, 1, 0, 1, 1, 2, 3);
    }

    private static void severalWays() {
        CHECK.terms("of several ways, that of which the first BAND has the fewest NAMES, then the second, "
            + "and so on.");
        DrawBench flat = Check.benchOf(
            7, 1, 0, 0, 7, 2, 0, 0, 7, 3, 0, 0, 7, 4, 0, 0, 7, 5, 0, 0);
        bandsAre(flat, 2, 0, 0, 1, 1, 1, 1);
        bandsAre(flat, 3, 0, 0, 1, 2, 2, 2);
        bandsAre(flat, 5, 0, 0, 1, 2, 3, 4);
        DrawBench mirrored = Check.benchOf(-3, 1, 0, 0, 0, 1, 0, 0, 3, 1, 0, 0);
        bandsAre(mirrored, 2, 9, 0, 1, 1);
        DrawBench later = Check.benchOf(90, 1, 0, 0, -3, 2, 0, 0, 0, 3, 0, 0, 3, 4, 0, 0);
        bandsAre(later, 3, 9, 0, 1, 2, 2);
    }

    private static void sumOfBands() {
        CHECK.promise(19, "The sum of k BANDS.");
        DrawBench one = Check.benchOf(-100, 50, 3, 100);
        bandsAre(one, 1, 0, 0);
        int[] facts = Check.alike(10, 100, 1, 0, 0);
        for (int i = 0; i < 10; i += 2) {
            facts[4 * i] = -100;
        }
        DrawBench wide = Check.benchOf(facts);
        wide.heap(1);
        CHECK.due("the highest sum", wide.bands(1), 1_000_000);
        CHECK.due("nine BANDS", wide.bands(9), 40_000);
        CHECK.due("ten BANDS", wide.bands(10), 0);
        CHECK.result("no sum of BANDS is the RESULT", wide, "0/1");
    }

    private static void noSuchSum() {
        CHECK.promise(19, "-1: k is not 1 to the NAMES");
        for (int names : new int[] {1, 4, 10}) {
            DrawBench bench = Check.benchOf(Check.alike(names, 9, 9, 0, 0));
            CHECK.due("one BAND", bench.bands(1), 0);
            CHECK.due("a BAND for each NAME", bench.bands(names), 0);
            for (int k : Check.outside(1, names)) {
                CHECK.due("bands " + k + " of " + names, bench.bands(k), -1);
            }
        }
    }

    private static void bandOfNames() {
        CHECK.promise(20, "In which of k BANDS (from 0 on) a NAME is");
        DrawBench bench = Check.benchOf(Check.alike(10, 9, 9, 0, 0));
        for (int k = 1; k <= 10; k++) {
            CHECK.due("the first of " + k, bench.band(k, 0), 0);
            CHECK.due("the last of " + k, bench.band(k, 9), k - 1);
        }
        CHECK.due("the last but one of ten", bench.band(10, 8), 8);
        CHECK.due("the only one", new DrawBench().band(1, 0), 0);
    }

    private static void noSuchBand() {
        CHECK.promise(20, "NONE for such a k");
        DrawBench bench = four();
        for (int k : Check.outside(1, 4)) {
            CHECK.due("band(" + k + ", 0)", bench.band(k, 0), DrawBench.NONE);
            CHECK.due("band(" + k + ", 3)", bench.band(k, 3), DrawBench.NONE);
        }
        CHECK.promise(20, "NONE [..] if there is no such NAME");
        for (int i : Check.outside(0, 3)) {
            CHECK.due("band(1, " + i + ")", bench.band(1, i), DrawBench.NONE);
            CHECK.due("band(4, " + i + ")", bench.band(4, i), DrawBench.NONE);
        }
        DrawBench ten = Check.benchOf(Check.alike(10, 9, 9, 0, 0));
        for (int i : Check.outside(0, 9)) {
            CHECK.due("band(10, " + i + ")", ten.band(10, i), DrawBench.NONE);
        }
        for (int k : Check.outside(1, 10)) {
            CHECK.due("band(" + k + ", 9)", ten.band(k, 9), DrawBench.NONE);
        }
    }
}
