/** Promises 16 to 18: heap, share, least. */
public final class HeapTest {
    private static final Check CHECK = new Check();

    public static void main(String[] args) {
        heap();
        shareByTheLeast();
        shareOfSeveralAlike();
        refused();
        CHECK.end("HeapTest");
    }

    private static void heap() {
        // HEAP 0: 1, 2, 4; HEAP 2: -50; HEAP 3: 3, 3
        DrawBench bench = Check.benchOf(
            1, 1, 0, 0, 2, 1, 0, 0, 4, 1, 0, 0, -50, 1, 2, 0, 3, 1, 3, 0, 3, 1, 3, 0);
        String[] want = {"21/1", "0/1", "0/1", "0/1"};
        for (int h = 0; h < 4; h++) {
            CHECK.due("heap", bench.heap(h), true);
            CHECK.result("heap " + h, bench, want[h]);
        }
        DrawBench odd = Check.benchOf(1, 1, 1, 0, 0, 1, 1, 0, 0, 1, 1, 0, 0, 1, 1, 0);
        odd.heap(1);
        CHECK.result("heap 1", odd, "4/1");
        odd = Check.benchOf(
            1, 1, 3, 0, 0, 1, 3, 0, 0, 1, 3, 0, 1, 1, 3, 0, 0, 1, 3, 0);
        odd.heap(3);
        CHECK.result("heap 3", odd, "15/2");
    }

    /** V is 200 of HEAP 0 (10, 20), 20000 of HEAP 1 (100, -100 and such): the wide one has more. */
    private static void shareByTheLeast() {
        DrawBench bench = Check.benchOf(
            10, 1, 0, 0, 20, 1, 0, 0, 100, 1, 1, 0, -100, 1, 1, 0, 0, 1, 1, 0);
        shared(bench, 2, 1, 1, 0, 0);
        shared(bench, 3, 1, 2, 0, 0);
        shared(bench, 4, 1, 3, 0, 0);
        shared(bench, 5, 2, 3, 0, 0);
        leastIs(bench, 2, "90200/1");
        leastIs(bench, 3, "45200/1");
        leastIs(bench, 4, "30200/1");
        leastIs(bench, 5, "30100/1");
        DrawBench thirds = Check.benchOf(1, 1, 2, 0, 0, 1, 2, 0, 0, 1, 2, 0, 0, 1, 2, 0);
        leastIs(thirds, 3, "4/3");
        shared(thirds, 3, 0, 0, 3, 0);
    }

    /** With no spread anywhere all ways are alike: most from HEAP 0, then from HEAP 1. */
    private static void shareOfSeveralAlike() {
        DrawBench bench = Check.benchOf(
            5, 1, 0, 0, 5, 1, 0, 0, 5, 1, 1, 0, 5, 1, 1, 0, 5, 1, 3, 0, 5, 1, 3, 0);
        shared(bench, 3, 1, 1, 0, 1);
        shared(bench, 4, 2, 1, 0, 1);
        shared(bench, 5, 2, 2, 0, 1);
        shared(bench, 6, 2, 2, 0, 2);
        leastIs(bench, 4, "0/1");
        DrawBench alike = Check.benchOf(
            9, 1, 3, 0, 8, 1, 3, 0, 9, 1, 1, 0, 8, 1, 1, 0, 3, 1, 2, 0, 4, 1, 2, 0);
        shared(alike, 4, 0, 2, 1, 1);
        shared(alike, 5, 0, 2, 2, 1);
    }

    private static void shared(DrawBench bench, int t, int... want) {
        for (int h = 0; h < 4; h++) {
            CHECK.due("share(" + t + ", " + h + ")", bench.share(t, h), want[h]);
        }
    }

    private static void leastIs(DrawBench bench, int t, String want) {
        CHECK.due("least", bench.least(t), true);
        CHECK.result("least " + t, bench, want);
    }

    private static void refused() {
        DrawBench bench = Check.benchOf(1, 1, 0, 0, 5, 1, 0, 0, 5, 1, 3, 0);
        bench.heap(0);
        CHECK.result("heap", bench, "32/1");
        int[] strangeHeaps = {-1, 4, Integer.MIN_VALUE, Integer.MAX_VALUE};
        for (int h : strangeHeaps) {
            CHECK.due("heap " + h, bench.heap(h), false);
            CHECK.due("share(2, " + h + ")", bench.share(2, h), -2);
            CHECK.due("share(-1, " + h + ")", bench.share(-1, h), -2);
        }
        int[] strangeSums = {-1, 0, 1, 4, Integer.MIN_VALUE, Integer.MAX_VALUE};
        for (int t : strangeSums) {
            CHECK.due("share " + t, bench.share(t, 0), -4);
            CHECK.due("share of a heap without names " + t, bench.share(t, 1), -4);
            CHECK.due("least " + t, bench.least(t), false);
        }
        CHECK.due("share(2, 1)", bench.share(2, 1), 0);
        CHECK.result("nothing changed", bench, "32/1");
        CHECK.due("nor drawn", bench.count(20), 0);
    }
}
