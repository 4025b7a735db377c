/** Promise 5, and what "Terms" says of a CROWD. */
public final class CrowdTest {
    private static final int MOST_NAMES = 10;
    private static final int NAMES_AT = 0;
    private static final int WORTH_AT = 1;
    private static final int SIZE_AT = 2;
    private static final int HEAP_AT = 3;
    private static final int SHARE_AT = 4;
    private static final Check CHECK = new Check();

    public static void main(String[] args) {
        fewestAndMostNames();
        limits();
        takenInPlace();
        takenOnce();
        rowOfMoreNumbers();
        refused();
        rowEnds();
        notAsTold();
        readOneByOne();
        CHECK.end("CrowdTest");
    }

    private static long[] plainRow(int names) {
        return Check.rowOf(Check.alike(names, 0, 1, 0, 0));
    }

    private static int crowdOf(long... numbers) {
        DrawBench bench = new DrawBench();
        Check.lay(bench, 1, 3, numbers);
        return bench.crowd(1);
    }

    private static void fewestAndMostNames() {
        CHECK.terms("A CROWD has NAMES, 1 to 10, numbered from 0 on");
        for (int names = 1; names <= MOST_NAMES; names++) {
            DrawBench bench = new DrawBench();
            Check.lay(bench, 1, 0, plainRow(names));
            CHECK.due("crowd of " + names, bench.crowd(1), names);
            CHECK.due("count(0)", bench.count(0), names);
            CHECK.due("the first NAME", bench.chance(0), true);
            CHECK.due("the last NAME", bench.chance(names - 1), true);
            CHECK.due("beyond it", bench.chance(names), false);
        }
        CHECK.due("the ROW of none", withNames(0), -4);
        CHECK.due("the ROW of 11", withNames(11), -4);
        CHECK.due("the ROW of -1", withNames(-1), -4);
        CHECK.due("the ROW of the most", withNames(Long.MAX_VALUE), -4);
        CHECK.due("the ROW of the fewest", withNames(Long.MIN_VALUE), -4);
        CHECK.due("the ROW of 2 to the 32nd and 1", withNames((1L << 32) + 1), -4);
    }

    /** The ROW is long enough for 14 NAMES, so that its end is not what is amiss. */
    private static int withNames(long names) {
        long[] numbers = plainRow(14);
        numbers[NAMES_AT] = names;
        return crowdOf(numbers);
    }

    private static void limits() {
        CHECK.terms("each has a WORTH (-100 to 100)");
        limit(WORTH_AT, -100, 100);
        CHECK.terms("a SIZE (1 to 50)");
        limit(SIZE_AT, 1, 50);
        CHECK.terms("a HEAP (0 to 3)");
        limit(HEAP_AT, 0, 3);
        CHECK.terms("and a SHARE (0 to 100)");
        limit(SHARE_AT, 0, 100);
    }

    private static void limit(int at, long lowest, long highest) {
        for (int name = 0; name < MOST_NAMES; name++) {
            CHECK.due("the lowest", with(name, at, lowest), MOST_NAMES);
            CHECK.due("the highest", with(name, at, highest), MOST_NAMES);
            CHECK.due("below", with(name, at, lowest - 1), -4);
            CHECK.due("above", with(name, at, highest + 1), -4);
            CHECK.due("far below", with(name, at, Long.MIN_VALUE), -4);
            CHECK.due("far above", with(name, at, Long.MAX_VALUE), -4);
            CHECK.due("right but for what no int holds", with(name, at, (1L << 32) + 1), -4);
        }
    }

    private static int with(int name, int at, long v) {
        long[] numbers = plainRow(MOST_NAMES);
        numbers[4 * name + at] = v;
        return crowdOf(numbers);
    }

    private static void takenInPlace() {
        CHECK.promise(5, "A CROWD of the SLOT's ROW in place of the one there is");
        DrawBench bench = Check.benchOf(1, 1, 0, 5, 2, 1, 0, 5, 3, 1, 3, 5);
        bench.drawn(0, 2);
        bench.drawn(3, 1);
        bench.draw(4, 2);
        bench.spread();
        String result = Check.resultOf(bench);
        Check.lay(bench, 0, 0, Check.rowOf(-5, 3, 2, 40, 8, 1, 0, 60));
        CHECK.due("crowd(0)", bench.crowd(0), 2);
        CHECK.result("what was asked before", bench, result);
        CHECK.due("NAMES", bench.count(0), 2);
        CHECK.due("the NAME that is gone", bench.chance(2), false);
        int[] namesOfHeap = {1, 0, 1, 0};
        for (int heap = 0; heap < 4; heap++) {
            CHECK.due("NAMES of HEAP " + heap, bench.count(10 + heap), namesOfHeap[heap]);
        }
        CHECK.promise(5, "(the DRAW is ALIKE, 1; DRAWN are 0)");
        CHECK.due("kind", bench.count(1), 0);
        CHECK.due("n", bench.count(2), 1);
        CHECK.due("sets", bench.sets(), 2);
        bench.chance(0);
        CHECK.result("chance(0)", bench, "1/2");
        for (int heap = 0; heap < 4; heap++) {
            CHECK.due("DRAWN of HEAP " + heap, bench.count(20 + heap), 0);
        }
        bench.draw(1, 0);
        bench.set(0);
        CHECK.result("set(0) by HEAPS", bench, "1/1");
    }

    private static void takenOnce() {
        CHECK.promise(5, "how many NAMES, of each WORTH, SIZE, HEAP, SHARE: how many NAMES");
        DrawBench bench = new DrawBench();
        Check.lay(bench, 0, 0, Check.rowOf(-5, 3, 2, 40, 8, 1, 0, 60));
        CHECK.due("crowd(0)", bench.crowd(0), 2);
        Check.lay(bench, 0, 0, Check.rowOf(99, 50, 1, 99));
        CHECK.due("a ROW that is written anew is not the CROWD", bench.count(0), 2);
        bench.tear(0);
        bench.draw(0, 2);
        bench.sum(1);
        CHECK.result("WORTH 0", bench, "-5/1");
        bench.sum(2);
        CHECK.result("WORTH 1", bench, "8/1");
        bench.draw(4, 1);
        bench.chance(0);
        CHECK.result("by SIZE", bench, "3/4");
        bench.draw(3, 0);
        bench.chance(1);
        CHECK.result("by SHARE", bench, "3/5");
        CHECK.due("HEAP 2", bench.count(12), 1);
    }

    private static void rowOfMoreNumbers() {
        CHECK.promise(5, "as the numbers are read one by one");
        DrawBench bench = new DrawBench();
        bench.row(0, 3, 60);
        for (int i = 5; i < 60; i++) {
            bench.write(0, i, Long.MIN_VALUE);
        }
        Check.fill(bench, 0, plainRow(1));
        CHECK.due("what stands behind the last NAME is not read", bench.crowd(0), 1);
        long[] full = new long[60];
        java.util.Arrays.fill(full, Long.MAX_VALUE);
        System.arraycopy(plainRow(10), 0, full, 0, 41);
        CHECK.due("nor behind the tenth", crowdOf(full), 10);
    }

    private static void refused() {
        CHECK.promise(5, "-2: there is no such SLOT");
        DrawBench bench = new DrawBench();
        Check.lay(bench, 0, 0, plainRow(1));
        Check.lay(bench, 7, 0, plainRow(2));
        for (int slot : Check.outside(0, 7)) {
            CHECK.due("crowd " + slot, bench.crowd(slot), -2);
        }
        CHECK.due("crowd(0)", bench.crowd(0), 1);
        CHECK.due("crowd(7)", bench.crowd(7), 2);
        CHECK.promise(5, "-5: it has nothing");
        CHECK.due("crowd(1)", bench.crowd(1), -5);
        CHECK.due("crowd(6)", bench.crowd(6), -5);
        bench.tear(7);
        CHECK.due("crowd(7), torn", bench.crowd(7), -5);
    }

    private static void rowEnds() {
        CHECK.promise(5, "-6: the ROW ends ahead of one");
        CHECK.due("a ROW of none", crowdOf(), -6);
        for (int names = 1; names <= MOST_NAMES; names++) {
            long[] whole = plainRow(names);
            for (int length = 1; length < whole.length; length++) {
                long[] cut = java.util.Arrays.copyOf(whole, length);
                CHECK.due(length + " numbers of " + names + " NAMES", crowdOf(cut), -6);
            }
            CHECK.due("all numbers of " + names + " NAMES", crowdOf(whole), names);
        }
        DrawBench bench = new DrawBench();
        Check.lay(bench, 1, 3, plainRow(2));
        bench.row(1, 3, 5);
        Check.fill(bench, 1, 2, 0, 1, 0, 0);
        CHECK.due("what a longer ROW had there before", bench.crowd(1), -6);
    }

    private static void notAsTold() {
        CHECK.promise(5, "-4: one is not as told");
        for (int at = 0; at < 41; at++) {
            for (long v : new long[] {-101, 101, Long.MIN_VALUE, Long.MAX_VALUE}) {
                long[] numbers = plainRow(MOST_NAMES);
                numbers[at] = v;
                CHECK.due("number " + at + " is " + v, crowdOf(numbers), -4);
            }
        }
    }

    /** A number that is amiss comes ahead of the ROW's end if it stands there. */
    private static void readOneByOne() {
        CHECK.promise(5, "then, as the numbers are read one by one, -6: the ROW ends ahead of one, "
            + "-4: one is not as told");
        CHECK.due("11 NAMES, and no more numbers", crowdOf(11), -4);
        CHECK.due("no NAMES, and no more numbers", crowdOf(0), -4);
        for (int length = 2; length < 9; length++) {
            for (int amiss = 1; amiss < length; amiss++) {
                long[] numbers = java.util.Arrays.copyOf(plainRow(2), length);
                numbers[amiss] = -101;
                CHECK.due("amiss at " + amiss + " of " + length, crowdOf(numbers), -4);
            }
        }
    }
}
