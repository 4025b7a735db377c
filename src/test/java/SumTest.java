/** Promises 13 to 15: sum, mean, spread. */
public final class SumTest {
    private static final Check CHECK = new Check();

    public static void main(String[] args) {
        alike();
        neverDrawn();
        steps();
        weighed();
        longest();
        refused();
        CHECK.end("SumTest");
    }

    private static void told(DrawBench bench, int set, String want) {
        CHECK.due("sum", bench.sum(set), true);
        CHECK.result("sum " + set, bench, want);
    }

    private static void meanAndSpread(String of, DrawBench bench, String mean, String spread) {
        bench.mean();
        CHECK.result(of + " mean", bench, mean);
        bench.spread();
        CHECK.result(of + " spread", bench, spread);
    }

    /** WORTHS 1, -2, 4, two of three drawn: the told sums are -3/2, 15/2, 3, off 3 by 9/2 or 0. */
    private static void alike() {
        DrawBench bench = Check.benchOf(1, 1, 0, 0, -2, 1, 0, 0, 4, 1, 0, 0);
        bench.draw(0, 2);
        told(bench, 0, "0/1");
        told(bench, 2, "-3/1");
        told(bench, 3, "-3/2");
        told(bench, 5, "15/2");
        told(bench, 7, "9/2");
        meanAndSpread("ALIKE", bench, "3/1", "27/2");
        bench.draw(0, 3);
        meanAndSpread("ALIKE of all", bench, "3/1", "0/1");
        bench.draw(0, 0);
        told(bench, 7, "0/1");
        meanAndSpread("ALIKE of none", bench, "0/1", "0/1");
    }

    /** A NAME that is never drawn is in no told sum, nor in the mean. */
    private static void neverDrawn() {
        DrawBench bench = Check.benchOf(10, 1, 0, 0, 20, 1, 1, 50, -30, 1, 1, 100);
        bench.draw(3, 0);
        told(bench, 1, "0/1");
        told(bench, 7, "10/1");
        told(bench, 3, "40/1");
        meanAndSpread("OWN", bench, "-10/1", "400/1");
        bench.drawn(1, 1);
        bench.draw(1, 0);
        told(bench, 1, "0/1");
        told(bench, 5, "-60/1");
        meanAndSpread("HEAPS", bench, "-10/1", "2500/1");
    }

    /** SIZES 1 and 2, one step: told sums are 3 * 5 with 1/3, 3/2 * 7 with 2/3. */
    private static void steps() {
        DrawBench bench = Check.benchOf(5, 1, 0, 0, 7, 2, 0, 0);
        bench.draw(2, 1);
        told(bench, 1, "15/1");
        told(bench, 2, "21/2");
        told(bench, 3, "51/2");
        meanAndSpread("STEPS", bench, "12/1", "9/2");
    }

    /** SIZES 1, 2, 3, two of three: products 2, 3, 6 of 11; chances 5/11, 8/11, 9/11. */
    private static void weighed() {
        DrawBench bench = Check.benchOf(10, 1, 0, 0, 20, 2, 0, 0, 30, 3, 0, 0);
        bench.draw(4, 2);
        told(bench, 1, "22/1");
        told(bench, 2, "55/2");
        told(bench, 4, "110/3");
        told(bench, 3, "99/2");
        meanAndSpread("WEIGHED", bench, "60/1", "30/1");
    }

    /** The WEIGHED draw of nine from ten has the longest tops and bottoms. */
    private static void longest() {
        int[] sizes = {50, 49, 47, 43, 41, 37, 31, 29, 23, 39};
        int[] facts = new int[40];
        for (int i = 0; i < 10; i++) {
            facts[4 * i] = i % 2 == 0 ? 100 : -99;
            facts[4 * i + 1] = sizes[i];
        }
        Oracle oracle = new Oracle(facts);
        DrawBench bench = Check.benchOf(facts);
        for (int n = 8; n <= 10; n++) {
            Ratio[] chance = oracle.chances(4, n);
            Ratio[] told = oracle.toldSums(chance);
            bench.draw(4, n);
            bench.sum(1023);
            CHECK.result("sum of all by " + n, bench, told[1023]);
            bench.spread();
            CHECK.result("spread by " + n, bench, Oracle.spreadOf(chance, told));
        }
    }

    private static void refused() {
        DrawBench bench = Check.benchOf(1, 1, 0, 0, -2, 1, 0, 0, 4, 1, 0, 0);
        bench.sum(2);
        int[] strange = {-1, 8, 1024, Integer.MIN_VALUE, Integer.MAX_VALUE};
        for (int set : strange) {
            CHECK.due("sum " + set, bench.sum(set), false);
        }
        CHECK.result("nothing changed", bench, "-6/1");
    }
}
