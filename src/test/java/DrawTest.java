/** Promises 6 and 7, and what "Terms" says of DRAWN. */
public final class DrawTest {
    private static final int[] KINDS_WITH_N = {0, 2, 4};
    private static final Check CHECK = new Check();

    public static void main(String[] args) {
        drawnOfEachHeap();
        drawnFromThenOn();
        drawnIsNoDraw();
        drawnRefused();
        drawOfEachKind();
        drawWithoutLookingAtN();
        drawOfNoKind();
        drawOfTooFewOrTooMany();
        stepsOfTooFewOrTooMany();
        stepsOfTooLargeSizes();
        CHECK.end("DrawTest");
    }

    /** HEAPS of two, none, one and one; SIZES 2, 3, 5 and 4. */
    private static DrawBench threeHeaps() {
        return Check.benchOf(1, 2, 0, 0, 2, 3, 0, 50, 3, 5, 2, 100, 4, 4, 3, 10);
    }

    private static DrawBench alikeNames(int names) {
        return Check.benchOf(Check.alike(names, 1, 50, 3, 50));
    }

    private static void chanceIs(DrawBench bench, int i, String want) {
        bench.chance(i);
        CHECK.result("chance(" + i + ")", bench, want);
    }

    private static void drawnOfEachHeap() {
        CHECK.promise(6, "The DRAWN of a HEAP is n");
        DrawBench bench = threeHeaps();
        int[] most = {2, 0, 1, 1};
        for (int heap = 0; heap < 4; heap++) {
            CHECK.due("drawn all of " + heap, bench.drawn(heap, most[heap]), 0);
            for (int other = 0; other < 4; other++) {
                CHECK.due("DRAWN of " + other, bench.count(20 + other), other <= heap ? most[other] : 0);
            }
        }
        for (int heap = 0; heap < 4; heap++) {
            CHECK.due("drawn none of " + heap, bench.drawn(heap, 0), 0);
            CHECK.due("DRAWN of " + heap, bench.count(20 + heap), 0);
        }
    }

    private static void drawnFromThenOn() {
        CHECK.promise(6, "(a DRAW by HEAPS has it so from then on)");
        DrawBench bench = threeHeaps();
        bench.drawn(0, 1);
        bench.draw(1, 99);
        chanceIs(bench, 0, "1/2");
        chanceIs(bench, 3, "0/1");
        bench.drawn(3, 1);
        chanceIs(bench, 3, "1/1");
        CHECK.due("count(2)", bench.count(2), 2);
        bench.drawn(0, 2);
        bench.set(11);
        CHECK.result("set(11)", bench, "1/1");
        CHECK.due("sets", bench.sets(), 1);
        CHECK.due("count(2)", bench.count(2), 3);
        bench.draw(0, 1);
        bench.draw(1, 0);
        chanceIs(bench, 0, "1/1");
        bench.drawn(0, 0);
        chanceIs(bench, 0, "0/1");
    }

    private static void drawnIsNoDraw() {
        CHECK.promise(6, "The DRAWN of a HEAP is n (a DRAW by HEAPS has it so from then on): 0");
        for (int kind : new int[] {0, 2, 3, 4}) {
            DrawBench bench = threeHeaps();
            bench.draw(kind, 2);
            bench.spread();
            String spread = Check.resultOf(bench);
            CHECK.due("drawn(0, 1)", bench.drawn(0, 1), 0);
            CHECK.result("what was asked before", bench, spread);
            CHECK.due("kind", bench.count(1), kind);
            CHECK.due("n", bench.count(2), kind == 3 ? 0 : 2);
            bench.spread();
            CHECK.result("another kind's spread", bench, spread);
        }
    }

    private static void drawnRefused() {
        CHECK.promise(6, "-2: there is no such HEAP");
        DrawBench bench = threeHeaps();
        for (int heap : Check.outside(0, 3)) {
            CHECK.due("drawn of HEAP " + heap, bench.drawn(heap, 0), -2);
        }
        CHECK.due("drawn of HEAP 0", bench.drawn(0, 1), 0);
        CHECK.due("drawn of HEAP 3", bench.drawn(3, 1), 0);
        CHECK.promise(6, "-4: n is below 0");
        for (int heap = 0; heap < 4; heap++) {
            CHECK.due("drawn -1", bench.drawn(heap, -1), -4);
            CHECK.due("drawn the fewest", bench.drawn(heap, Integer.MIN_VALUE), -4);
            CHECK.due("drawn none", bench.drawn(heap, 0), 0);
        }
        CHECK.promise(6, "-4: [..] or above the HEAP's NAMES");
        int[] names = {2, 0, 1, 1};
        for (int heap = 0; heap < 4; heap++) {
            CHECK.due("drawn all", bench.drawn(heap, names[heap]), 0);
            CHECK.due("drawn one more", bench.drawn(heap, names[heap] + 1), -4);
            CHECK.due("drawn the most", bench.drawn(heap, Integer.MAX_VALUE), -4);
            CHECK.due("DRAWN", bench.count(20 + heap), names[heap]);
        }
        DrawBench full = alikeNames(10);
        CHECK.due("drawn 10 of 10", full.drawn(3, 10), 0);
        CHECK.due("drawn 11 of 10", full.drawn(3, 11), -4);
        CHECK.due("drawn 1 of none", full.drawn(0, 1), -4);
        DrawBench fresh = new DrawBench();
        CHECK.due("drawn 1 of 1", fresh.drawn(0, 1), 0);
        CHECK.due("drawn 2 of 1", fresh.drawn(0, 2), -4);
    }

    private static void drawOfEachKind() {
        CHECK.promise(7, "The DRAW is that");
        String[] chance = {"1/2", "1/2", "2/7", "0/1", "24/71"};
        for (int from = 0; from < 5; from++) {
            for (int kind = 0; kind < 5; kind++) {
                DrawBench bench = threeHeaps();
                bench.drawn(0, 1);
                bench.draw(from, 1);
                bench.sets();
                bench.heap(0);
                CHECK.due("draw(" + kind + ", 2)", bench.draw(kind, 2), 0);
                CHECK.result("what was asked before", bench, "2/1");
                CHECK.due("kind", bench.count(1), kind);
                CHECK.due("n", bench.count(2), kind == 1 ? 1 : kind == 3 ? 0 : 2);
                chanceIs(bench, 0, chance[kind]);
            }
        }
    }

    private static void drawWithoutLookingAtN() {
        CHECK.promise(7, "(n is not looked at of 1 and 3): 0");
        DrawBench bench = threeHeaps();
        for (int n : new int[] {0, 1, 4, -1, 5, Integer.MIN_VALUE, Integer.MAX_VALUE}) {
            CHECK.due("draw(1, " + n + ")", bench.draw(1, n), 0);
            CHECK.due("all DRAWN", bench.count(2), 0);
            bench.set(0);
            CHECK.result("set(0) by HEAPS", bench, "1/1");
            CHECK.due("draw(3, " + n + ")", bench.draw(3, n), 0);
            CHECK.due("n of OWN", bench.count(2), 0);
            chanceIs(bench, 1, "1/2");
        }
    }

    private static void drawOfNoKind() {
        CHECK.promise(7, "-2: there is no such kind");
        DrawBench bench = threeHeaps();
        for (int kind : Check.outside(0, 4)) {
            CHECK.due("draw(" + kind + ", 1)", bench.draw(kind, 1), -2);
        }
        CHECK.due("draw(4, 1)", bench.draw(4, 1), 0);
        CHECK.due("draw(0, 1)", bench.draw(0, 1), 0);
    }

    private static void drawOfTooFewOrTooMany() {
        CHECK.promise(7, "-4: n is not 0 to the NAMES");
        for (int names : new int[] {1, 4, 10}) {
            for (int kind : new int[] {0, 4}) {
                DrawBench bench = alikeNames(names);
                CHECK.due("draw none", bench.draw(kind, 0), 0);
                CHECK.due("sets of none", bench.sets(), 1);
                CHECK.due("draw all", bench.draw(kind, names), 0);
                CHECK.due("sets of all", bench.sets(), 1);
                for (int n : Check.outside(0, names)) {
                    CHECK.due("draw(" + kind + ", " + n + ") of " + names, bench.draw(kind, n), -4);
                }
                CHECK.due("n", bench.count(2), names);
            }
        }
        DrawBench fresh = new DrawBench();
        for (int kind : KINDS_WITH_N) {
            CHECK.due("draw(" + kind + ", 1) of a new object", fresh.draw(kind, 1), 0);
            CHECK.due("draw(" + kind + ", 2) of a new object", fresh.draw(kind, 2), -4);
        }
    }

    private static void stepsOfTooFewOrTooMany() {
        CHECK.promise(7, "-4: n is not [..] (1 to them of 2)");
        for (int names : new int[] {1, 4, 10}) {
            DrawBench bench = alikeNames(names);
            CHECK.due("one step", bench.draw(2, 1), 0);
            CHECK.due("sets of one step", bench.sets(), names);
            CHECK.due("a step for each of " + names, bench.draw(2, names), 0);
            CHECK.due("sets of all", bench.sets(), 1);
            for (int n : Check.outside(1, names)) {
                CHECK.due("draw(2, " + n + ") of " + names, bench.draw(2, n), -4);
            }
        }
    }

    private static void stepsOfTooLargeSizes() {
        CHECK.promise(7, "-4: [..] of 2: a NAME's SIZE times n is above T");
        int[][] justT = {{3, 1, 2}, {1, 3, 2}, {1, 2, 3}};
        int[][] aboveT = {{4, 1, 2}, {1, 4, 2}, {1, 2, 4}};
        for (int which = 0; which < 3; which++) {
            DrawBench just = ofSizes(justT[which]);
            CHECK.due("2 times 3 of 6", just.draw(2, 2), 0);
            chanceIs(just, which, "1/1");
            DrawBench above = ofSizes(aboveT[which]);
            CHECK.due("2 times 4 of 7", above.draw(2, 2), -4);
            CHECK.due("1 time 4 of 7", above.draw(2, 1), 0);
            CHECK.due("2 of ALIKE", above.draw(0, 2), 0);
            CHECK.due("2 of WEIGHED", above.draw(4, 2), 0);
        }
        DrawBench large = ofSizes(50, 50, 50, 50, 50, 50, 50, 50, 50, 49);
        CHECK.due("10 times 50 of 499", large.draw(2, 10), -4);
        CHECK.due("9 times 50 of 499", large.draw(2, 9), 0);
        DrawBench one = ofSizes(50);
        CHECK.due("1 time 50 of 50", one.draw(2, 1), 0);
    }

    private static DrawBench ofSizes(int... sizes) {
        int[] facts = Check.alike(sizes.length, 0, 1, 0, 0);
        for (int i = 0; i < sizes.length; i++) {
            facts[4 * i + 1] = sizes[i];
        }
        return Check.benchOf(facts);
    }
}
