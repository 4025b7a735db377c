import java.math.BigInteger;

/** Promises 21 to 23, and what "Terms" says of the RESULT. */
public final class LookTest {
    private static final BigInteger BASE = BigInteger.valueOf(1_000_000_000L);
    private static final Check CHECK = new Check();

    public static void main(String[] args) {
        lowestTerms();
        sign();
        fewestParts();
        partsAtTheEnds();
        noSuchLook();
        nineDigitsEach();
        longestNumber();
        noSuchPart();
        countOfNamesAndSlots();
        countOfTheDraw();
        countOfHeaps();
        noSuchCount();
        CHECK.end("LookTest");
    }

    /** The RESULT is the chance that all NAMES of these SHARES are drawn by OWN. */
    private static DrawBench allOf(int... shares) {
        int[] facts = Check.alike(shares.length, 0, 1, 0, 0);
        for (int i = 0; i < shares.length; i++) {
            facts[4 * i + 3] = shares[i];
        }
        DrawBench bench = Check.benchOf(facts);
        bench.draw(3, 0);
        bench.set((1 << shares.length) - 1);
        return bench;
    }

    private static void partsAre(DrawBench bench, int ofTop, int ofBottom) {
        CHECK.due("parts of the top", bench.look(1), ofTop);
        CHECK.due("parts of the bottom", bench.look(2), ofBottom);
    }

    private static void lowestTerms() {
        CHECK.terms("The RESULT is a fraction in lowest terms, its bottom above 0 (0 / 1 at first).");
        CHECK.result("nothing", new DrawBench(), "0/1");
        CHECK.result("50 by 100", allOf(50), "1/2");
        CHECK.result("0 by 100", allOf(0), "0/1");
        CHECK.result("100 by 100", allOf(100), "1/1");
        CHECK.result("99 by 100", allOf(99), "99/100");
        CHECK.result("all tops and bottoms", allOf(20, 50, 75, 80), "3/50");
        DrawBench below = Check.benchOf(-6, 1, 0, 40);
        below.draw(3, 0);
        below.sum(1);
        CHECK.result("below 0", below, "-15/1");
        CHECK.due("its bottom", below.part(true, 0), 1);
        below.sum(0);
        CHECK.result("0 again", below, "0/1");
    }

    private static void sign() {
        CHECK.promise(21, "0 1, 0 or -1, as it is above 0, 0, below");
        DrawBench bench = Check.benchOf(-7, 1, 0, 0, 7, 1, 0, 0);
        bench.sum(1);
        CHECK.due("below 0", bench.look(0), -1);
        CHECK.due("its top without sign", bench.part(false, 0), 14);
        bench.sum(2);
        CHECK.due("above 0", bench.look(0), 1);
        CHECK.due("its top", bench.part(false, 0), 14);
        bench.sum(3);
        CHECK.due("0", bench.look(0), 0);
        CHECK.due("its top", bench.part(false, 0), 0);
        CHECK.due("its bottom", bench.part(true, 0), 1);
        bench.sum(1);
        bench.heap(0);
        CHECK.due("above 0 once more", bench.look(0), 1);
        CHECK.due("0 at first", new DrawBench().look(0), 0);
    }

    private static void fewestParts() {
        CHECK.promise(21, "1 how many parts of nine digits its top has (without sign; 1 of 0)");
        partsAre(new DrawBench(), 1, 1);
        partsAre(allOf(0, 1, 1, 1, 1, 1), 1, 1);
        DrawBench below = Check.benchOf(-1, 1, 0, 1);
        below.draw(3, 0);
        below.sum(1);
        partsAre(below, 1, 1);
        CHECK.result("100 below 0", below, "-100/1");
    }

    private static void partsAtTheEnds() {
        CHECK.promise(21, "1 how many parts of nine digits its top has [..], 2 its bottom");
        partsAre(allOf(99, 99, 99, 99, 90), 1, 2);
        CHECK.result("nine digits, ten digits", allOf(99, 99, 99, 99, 90), "864536409/1000000000");
        partsAre(allOf(1, 1, 1, 1), 1, 1);
        partsAre(allOf(1, 1, 1, 1, 20), 1, 1);
        partsAre(allOf(1, 1, 1, 1, 10), 1, 2);
        partsAre(allOf(99, 99, 99, 99, 99), 2, 2);
        partsAre(allOf(1, 1, 1, 1, 1, 1, 1, 1, 2), 1, 2);
        partsAre(allOf(1, 1, 1, 1, 1, 1, 1, 1, 1), 1, 3);
        partsAre(allOf(99, 99, 99, 99, 99, 99, 99, 99, 99, 99), 3, 3);
    }

    private static void noSuchLook() {
        CHECK.promise(21, "NONE for another what");
        DrawBench bench = allOf(99, 99, 99, 99, 90);
        for (int what : Check.outside(0, 2)) {
            CHECK.due("look " + what, bench.look(what), DrawBench.NONE);
        }
    }

    private static void nineDigitsEach() {
        CHECK.promise(22, "Part i (nine digits each, the lowest first) of the top (without sign), or the bottom");
        DrawBench bench = allOf(99, 99, 99, 99, 99);
        CHECK.due("top 0", bench.part(false, 0), 509900499);
        CHECK.due("top 1", bench.part(false, 1), 9);
        CHECK.due("bottom 0", bench.part(true, 0), 0);
        CHECK.due("bottom 1", bench.part(true, 1), 10);
        // 10 to the eighteenth has two parts of 0 below its 1
        DrawBench zeros = allOf(1, 1, 1, 1, 1, 1, 1, 1, 1);
        CHECK.due("bottom 0", zeros.part(true, 0), 0);
        CHECK.due("bottom 1", zeros.part(true, 1), 0);
        CHECK.due("bottom 2", zeros.part(true, 2), 1);
        DrawBench below = Check.benchOf(-7, 1, 0, 0);
        below.mean();
        CHECK.due("a top below 0", below.part(false, 0), 7);
        CHECK.due("a bottom is never", below.part(true, 0), 1);
    }

    /** The SPREAD of a WEIGHED draw of nine of ten has the longest top and bottom there are. */
    private static void longestNumber() {
        CHECK.promise(22, "Part i (nine digits each, the lowest first)");
        int[] sizes = {50, 49, 47, 43, 41, 37, 31, 29, 23, 39};
        int[] facts = Check.alike(10, 100, 1, 0, 0);
        for (int i = 0; i < 10; i++) {
            facts[4 * i] = i % 2 == 0 ? 100 : -99;
            facts[4 * i + 1] = sizes[i];
        }
        Oracle oracle = new Oracle(facts);
        Ratio[] chance = oracle.chances(4, 9);
        String[] spread = Oracle.spreadOf(chance, oracle.toldSums(chance)).toString().split("/");
        DrawBench bench = Check.benchOf(facts);
        bench.draw(4, 9);
        bench.spread();
        partsOf(bench, false, new BigInteger(spread[0]), bench.look(1));
        partsOf(bench, true, new BigInteger(spread[1]), bench.look(2));
        bench.heap(1);
        for (int i = 0; i < 25; i++) {
            CHECK.due("top " + i + " of 0 behind it", bench.part(false, i), 0);
            CHECK.due("bottom " + i + " of 1 behind it", bench.part(true, i), i == 0 ? 1 : 0);
        }
    }

    private static void partsOf(DrawBench bench, boolean bottom, BigInteger number, int parts) {
        BigInteger rest = number;
        for (int i = 0; i < 25; i++) {
            CHECK.due("is there a part " + i, i < parts, rest.signum() > 0);
            CHECK.due("part " + i, bench.part(bottom, i), rest.mod(BASE).intValue());
            rest = rest.divide(BASE);
        }
    }

    private static void noSuchPart() {
        CHECK.promise(22, "0 where there is none such");
        DrawBench bench = allOf(99, 99, 99, 99, 99);
        for (int i : Check.outside(0, 1)) {
            CHECK.due("top " + i, bench.part(false, i), 0);
            CHECK.due("bottom " + i, bench.part(true, i), 0);
        }
        for (int i = 2; i < 64; i++) {
            CHECK.due("top " + i, bench.part(false, i), 0);
            CHECK.due("bottom " + i, bench.part(true, i), 0);
        }
    }

    private static void countOfNamesAndSlots() {
        CHECK.promise(23, "0 NAMES");
        CHECK.due("of a new object", new DrawBench().count(0), 1);
        CHECK.due("of the most", Check.benchOf(Check.alike(10, 0, 1, 0, 0)).count(0), 10);
        CHECK.promise(23, "3 SLOTS that have a ROW");
        DrawBench bench = new DrawBench();
        CHECK.due("none", bench.count(3), 0);
        for (int slot = 0; slot < 8; slot++) {
            bench.row(slot, 0, 0);
            CHECK.due("one more", bench.count(3), slot + 1);
        }
        bench.row(7, 0, 60);
        CHECK.due("all of them", bench.count(3), 8);
        for (int slot = 0; slot < 8; slot++) {
            bench.tear(slot);
            CHECK.due("one less", bench.count(3), 7 - slot);
        }
    }

    /** HEAPS of one, none, two and one. */
    private static DrawBench threeHeaps() {
        return Check.benchOf(0, 1, 0, 0, 0, 1, 2, 0, 0, 1, 2, 0, 0, 1, 3, 0);
    }

    private static void countOfTheDraw() {
        CHECK.promise(23, "1 the kind of the DRAW, 2 its n (of 1: all DRAWN together; 0 of 3)");
        DrawBench bench = threeHeaps();
        bench.drawn(2, 2);
        bench.drawn(3, 1);
        for (int n = 1; n <= 4; n++) {
            int[] want = {n, 3, n, 0, n};
            for (int kind = 0; kind < 5; kind++) {
                bench.draw(kind, n);
                CHECK.due("kind", bench.count(1), kind);
                CHECK.due("n of kind " + kind, bench.count(2), want[kind]);
            }
        }
        bench.draw(0, 0);
        CHECK.due("n of ALIKE", bench.count(2), 0);
        bench.draw(1, 0);
        bench.drawn(0, 1);
        CHECK.due("all DRAWN", bench.count(2), 4);
        bench.drawn(0, 0);
        bench.drawn(2, 0);
        bench.drawn(3, 0);
        CHECK.due("none DRAWN", bench.count(2), 0);
    }

    private static void countOfHeaps() {
        CHECK.promise(23, "10 + h NAMES of HEAP h, 20 + h its DRAWN");
        DrawBench bench = threeHeaps();
        bench.drawn(2, 2);
        bench.drawn(3, 1);
        int[] names = {1, 0, 2, 1};
        int[] drawn = {0, 0, 2, 1};
        for (int heap = 0; heap < 4; heap++) {
            CHECK.due("NAMES of HEAP " + heap, bench.count(10 + heap), names[heap]);
            CHECK.due("DRAWN of HEAP " + heap, bench.count(20 + heap), drawn[heap]);
        }
        for (int heap = 0; heap < 4; heap++) {
            DrawBench full = Check.benchOf(Check.alike(10, 0, 1, heap, 0));
            full.drawn(heap, 10);
            for (int other = 0; other < 4; other++) {
                CHECK.due("NAMES of HEAP " + other, full.count(10 + other), other == heap ? 10 : 0);
                CHECK.due("DRAWN of HEAP " + other, full.count(20 + other), other == heap ? 10 : 0);
            }
        }
    }

    private static void noSuchCount() {
        CHECK.promise(23, "NONE for another what");
        DrawBench bench = threeHeaps();
        for (int what = -30; what < 60; what++) {
            boolean known = what >= 0 && what <= 3 || what >= 10 && what <= 13 || what >= 20 && what <= 23;
            if (!known) {
                CHECK.due("count " + what, bench.count(what), DrawBench.NONE);
            }
        }
        CHECK.due("the lowest", bench.count(Integer.MIN_VALUE), DrawBench.NONE);
        CHECK.due("the highest", bench.count(Integer.MAX_VALUE), DrawBench.NONE);
    }
}
