/** Promises 16 to 18, and what "Terms" says of V and of SHARED OUT. */
public final class HeapTest {
    private static final int[] HEAPS = {0, 1, 2, 3};
    private static final Check CHECK = new Check();

    public static void main(String[] args) {
        spreadOfHeap();
        heapOfOneOrNone();
        noHeap();
        atLeastOneAndNoMoreThanThereAre();
        leastSum();
        severalWays();
        shareOfNoHeap();
        shareOfTooFewOrTooMany();
        least();
        CHECK.end("HeapTest");
    }

    private static void heapIs(DrawBench bench, int heap, String want) {
        CHECK.due("heap " + heap, bench.heap(heap), true);
        CHECK.result("heap " + heap, bench, want);
    }

    private static void sharedOut(DrawBench bench, int t, int... want) {
        for (int heap : HEAPS) {
            CHECK.due("share(" + t + ", " + heap + ")", bench.share(t, heap), want[heap]);
        }
    }

    private static void leastIs(DrawBench bench, int t, String want) {
        CHECK.due("least " + t, bench.least(t), true);
        CHECK.result("least " + t, bench, want);
    }

    /** HEAP 0: 10, 20; HEAP 1: 100, -100, 0. */
    private static DrawBench narrowAndWide() {
        return Check.benchOf(10, 1, 0, 0, 20, 1, 0, 0, 100, 1, 1, 0, -100, 1, 1, 0, 0, 1, 1, 0);
    }

    private static void spreadOfHeap() {
        CHECK.terms("V of a HEAP of N NAMES is N * (N * (sum of squares of WORTHS) - (square of the sum of "
            + "WORTHS)) / (N - 1)");
        for (int heap : HEAPS) {
            DrawBench two = Check.benchOf(3, 1, heap, 0, -4, 1, heap, 0);
            heapIs(two, heap, "98/1");
            DrawBench five = Check.benchOf(1, 1, heap, 0, 0, 1, heap, 0, 0, 1, heap, 0, 1, 1, heap, 0, 0, 1, heap, 0);
            heapIs(five, heap, "15/2");
        }
        int[] facts = Check.alike(10, 100, 1, 3, 0);
        for (int i = 0; i < 5; i++) {
            facts[4 * i] = -100;
        }
        heapIs(Check.benchOf(facts), 3, "10000000/9");
        heapIs(Check.benchOf(Check.alike(10, -100, 1, 0, 0)), 0, "0/1");
    }

    private static void heapOfOneOrNone() {
        CHECK.terms("0 if N is 1");
        DrawBench bench = Check.benchOf(100, 1, 0, 0, -100, 1, 3, 0);
        bench.mean();
        heapIs(bench, 0, "0/1");
        bench.sum(1);
        heapIs(bench, 3, "0/1");
        CHECK.promise(16, "The RESULT is V of a HEAP (0 without NAMES): true");
        bench.sum(1);
        heapIs(bench, 1, "0/1");
        bench.sum(1);
        heapIs(bench, 2, "0/1");
    }

    private static void noHeap() {
        CHECK.promise(16, "false if there is none such");
        DrawBench bench = Check.benchOf(1, 1, 0, 0, 5, 1, 0, 0, 1, 1, 3, 0, 6, 1, 3, 0);
        heapIs(bench, 0, "32/1");
        heapIs(bench, 3, "50/1");
        for (int heap : Check.outside(0, 3)) {
            CHECK.due("heap " + heap, bench.heap(heap), false);
        }
        CHECK.result("heap(3)", bench, "50/1");
    }

    private static void atLeastOneAndNoMoreThanThereAre() {
        CHECK.terms("SHARED OUT are t DRAWN in all, at least one from each HEAP that has NAMES");
        // HEAP 0 has no spread at all, HEAP 1 all of it; HEAPS 2 and 3 have no NAMES
        DrawBench bench = Check.benchOf(
            5, 1, 0, 0, 5, 1, 0, 0, 100, 1, 1, 0, -100, 1, 1, 0, 50, 1, 1, 0);
        sharedOut(bench, 2, 1, 1, 0, 0);
        sharedOut(bench, 3, 1, 2, 0, 0);
        sharedOut(bench, 4, 1, 3, 0, 0);
        CHECK.terms("and no more than it has");
        sharedOut(bench, 5, 2, 3, 0, 0);
        DrawBench four = Check.benchOf(1, 1, 0, 0, 2, 1, 1, 0, 3, 1, 2, 0, 4, 1, 3, 0);
        sharedOut(four, 4, 1, 1, 1, 1);
        DrawBench full = Check.benchOf(Check.alike(10, 1, 1, 3, 0));
        sharedOut(full, 1, 0, 0, 0, 1);
        sharedOut(full, 10, 0, 0, 0, 10);
    }

    private static void leastSum() {
        CHECK.terms("so that the sum of V / DRAWN is least");
        DrawBench bench = narrowAndWide();
        sharedOut(bench, 2, 1, 1, 0, 0);
        sharedOut(bench, 3, 1, 2, 0, 0);
        sharedOut(bench, 4, 1, 3, 0, 0);
        sharedOut(bench, 5, 2, 3, 0, 0);
        DrawBench turned = Check.benchOf(
            10, 1, 3, 0, 20, 1, 3, 0, 100, 1, 2, 0, -100, 1, 2, 0, 0, 1, 2, 0);
        sharedOut(turned, 3, 0, 0, 2, 1);
        sharedOut(turned, 4, 0, 0, 3, 1);
    }

    private static void severalWays() {
        CHECK.terms("of several ways, that which draws most from HEAP 0, then from HEAP 1, and so on.");
        int[] facts = Check.alike(8, 5, 1, 0, 0);
        for (int i = 0; i < 8; i++) {
            facts[4 * i + 2] = i % 4;
        }
        DrawBench flat = Check.benchOf(facts);
        sharedOut(flat, 4, 1, 1, 1, 1);
        sharedOut(flat, 5, 2, 1, 1, 1);
        sharedOut(flat, 6, 2, 2, 1, 1);
        sharedOut(flat, 7, 2, 2, 2, 1);
        sharedOut(flat, 8, 2, 2, 2, 2);
        // V is 2 of HEAPS 1, 2 and 3
        DrawBench alike = Check.benchOf(
            9, 1, 3, 0, 8, 1, 3, 0, 9, 1, 1, 0, 8, 1, 1, 0, 3, 1, 2, 0, 4, 1, 2, 0);
        sharedOut(alike, 4, 0, 2, 1, 1);
        sharedOut(alike, 5, 0, 2, 2, 1);
    }

    private static void shareOfNoHeap() {
        CHECK.promise(17, "-2: there is no such HEAP");
        DrawBench bench = narrowAndWide();
        for (int heap : Check.outside(0, 3)) {
            CHECK.due("share(2, " + heap + ")", bench.share(2, heap), -2);
            CHECK.due("share(-1, " + heap + ")", bench.share(-1, heap), -2);
        }
        CHECK.due("share(2, 0)", bench.share(2, 0), 1);
        CHECK.due("share(2, 3)", bench.share(2, 3), 0);
    }

    private static void shareOfTooFewOrTooMany() {
        CHECK.promise(17, "-4: t is below the HEAPS that have NAMES, or above the NAMES");
        refusedOutside(Check.benchOf(1, 1, 2, 0), 1, 1);
        refusedOutside(narrowAndWide(), 2, 5);
        refusedOutside(Check.benchOf(1, 1, 0, 0, 2, 1, 1, 0, 3, 1, 2, 0, 4, 1, 3, 0), 4, 4);
        refusedOutside(Check.benchOf(Check.alike(10, 1, 1, 3, 0)), 1, 10);
    }

    private static void refusedOutside(DrawBench bench, int lowest, int highest) {
        for (int heap : HEAPS) {
            for (int t : Check.outside(lowest, highest)) {
                CHECK.due("share(" + t + ", " + heap + ")", bench.share(t, heap), -4);
            }
        }
        CHECK.due("the fewest shared out", allShared(bench, lowest), lowest);
        CHECK.due("the most shared out", allShared(bench, highest), highest);
        CHECK.due("DRAWN are as they were", bench.count(20) + bench.count(23), 0);
    }

    private static int allShared(DrawBench bench, int t) {
        int all = 0;
        for (int heap : HEAPS) {
            all += bench.share(t, heap);
        }
        return all;
    }

    private static void least() {
        CHECK.promise(18, "The RESULT is the least sum of V / DRAWN with t SHARED OUT: true");
        DrawBench bench = narrowAndWide();
        leastIs(bench, 2, "90200/1");
        leastIs(bench, 3, "45200/1");
        leastIs(bench, 4, "30200/1");
        leastIs(bench, 5, "30100/1");
        DrawBench thirds = Check.benchOf(1, 1, 2, 0, 0, 1, 2, 0, 0, 1, 2, 0, 0, 1, 2, 0);
        leastIs(thirds, 1, "4/1");
        leastIs(thirds, 3, "4/3");
        leastIs(thirds, 4, "1/1");
        leastIs(new DrawBench(), 1, "0/1");
        int[] facts = Check.alike(10, 100, 1, 3, 0);
        for (int i = 0; i < 5; i++) {
            facts[4 * i] = -100;
        }
        DrawBench wide = Check.benchOf(facts);
        leastIs(wide, 1, "10000000/9");
        leastIs(wide, 7, "10000000/63");
        leastIs(wide, 10, "1000000/9");
        CHECK.promise(18, "false for such a t as is refused there");
        bench.least(5);
        for (int t : Check.outside(2, 5)) {
            CHECK.due("least " + t, bench.least(t), false);
        }
        CHECK.result("least(5)", bench, "30100/1");
        for (int t : Check.outside(1, 10)) {
            CHECK.due("least " + t + " of ten", wide.least(t), false);
        }
        CHECK.result("least(10)", wide, "1000000/9");
    }
}
