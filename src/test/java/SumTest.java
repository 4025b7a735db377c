/** Promises 13 to 15, and what "Terms" says of THE TOLD SUM. */
public final class SumTest {
    private static final Check CHECK = new Check();

    public static void main(String[] args) {
        toldSum();
        neverDrawn();
        sumOfSets();
        sumAtTheEnds();
        mean();
        spread();
        spreadOfNothing();
        longest();
        CHECK.end("SumTest");
    }

    /** WORTHS 1, -2, 4. */
    private static DrawBench three() {
        return Check.benchOf(1, 1, 0, 0, -2, 1, 0, 0, 4, 1, 0, 0);
    }

    /** NAME 0 has no SHARE, and HEAP 0 to itself. */
    private static DrawBench withOneNeverDrawn() {
        return Check.benchOf(10, 1, 0, 0, 20, 1, 1, 50, -30, 1, 1, 100);
    }

    private static void sumIs(DrawBench bench, int set, String want) {
        CHECK.due("sum " + set, bench.sum(set), true);
        CHECK.result("sum " + set, bench, want);
    }

    private static void meanIs(DrawBench bench, String want) {
        bench.mean();
        CHECK.result("mean", bench, want);
    }

    private static void spreadIs(DrawBench bench, String want) {
        bench.spread();
        CHECK.result("spread", bench, want);
    }

    private static void toldSum() {
        CHECK.terms("THE TOLD SUM of a set is the sum of WORTH by CHANCE of its NAMES");
        DrawBench alike = three();
        alike.draw(0, 2);
        sumIs(alike, 0, "0/1");
        sumIs(alike, 2, "-3/1");
        sumIs(alike, 3, "-3/2");
        sumIs(alike, 5, "15/2");
        sumIs(alike, 7, "9/2");
        // SIZES 1 and 2, one step: 5 by 1/3, 7 by 2/3
        DrawBench steps = Check.benchOf(5, 1, 0, 0, 7, 2, 0, 0);
        steps.draw(2, 1);
        sumIs(steps, 1, "15/1");
        sumIs(steps, 2, "21/2");
        sumIs(steps, 3, "51/2");
        // SIZES 1, 2, 3, two of three: products 2, 3, 6 of 11; chances 5/11, 8/11, 9/11
        DrawBench weighed = Check.benchOf(10, 1, 0, 0, 20, 2, 0, 0, 30, 3, 0, 0);
        weighed.draw(4, 2);
        sumIs(weighed, 1, "22/1");
        sumIs(weighed, 2, "55/2");
        sumIs(weighed, 4, "110/3");
        sumIs(weighed, 3, "99/2");
    }

    private static void neverDrawn() {
        CHECK.terms("(of those with a CHANCE above 0)");
        DrawBench bench = withOneNeverDrawn();
        bench.draw(3, 0);
        sumIs(bench, 1, "0/1");
        sumIs(bench, 3, "40/1");
        sumIs(bench, 7, "10/1");
        bench.drawn(1, 1);
        bench.draw(1, 0);
        sumIs(bench, 1, "0/1");
        sumIs(bench, 5, "-60/1");
        for (int kind : new int[] {0, 4}) {
            bench.draw(kind, 0);
            sumIs(bench, 7, "0/1");
        }
        DrawBench least = Check.benchOf(7, 1, 0, 1);
        least.draw(3, 0);
        sumIs(least, 1, "700/1");
    }

    private static void sumOfSets() {
        CHECK.promise(13, "The RESULT is THE TOLD SUM of a set: true");
        DrawBench bench = three();
        sumIs(bench, 0, "0/1");
        sumIs(bench, 7, "9/1");
        CHECK.promise(13, "false if there is no such set");
        bench.sum(2);
        for (int set : Check.outside(0, 7)) {
            CHECK.due("sum " + set, bench.sum(set), false);
        }
        CHECK.result("sum(2)", bench, "-6/1");
        DrawBench full = Check.benchOf(Check.alike(10, -100, 1, 0, 0));
        sumIs(full, 1023, "-10000/1");
        for (int set : Check.outside(0, 1023)) {
            CHECK.due("sum " + set + " of ten NAMES", full.sum(set), false);
        }
        CHECK.result("sum(1023)", full, "-10000/1");
        DrawBench one = new DrawBench();
        sumIs(one, 1, "0/1");
        CHECK.due("sum(2) of one NAME", one.sum(2), false);
    }

    private static void sumAtTheEnds() {
        CHECK.terms("each has a WORTH (-100 to 100) [..] and a SHARE (0 to 100)");
        for (int worth : new int[] {-100, 100}) {
            DrawBench hardly = Check.benchOf(Check.alike(10, worth, 1, 0, 1));
            hardly.draw(3, 0);
            sumIs(hardly, 1023, 1000 * worth + "/1");
            meanIs(hardly, 10 * worth + "/1");
            spreadIs(hardly, "9900000/1");
            DrawBench surely = Check.benchOf(Check.alike(10, worth, 1, 0, 100));
            surely.draw(3, 0);
            sumIs(surely, 1023, 10 * worth + "/1");
            meanIs(surely, 10 * worth + "/1");
            spreadIs(surely, "0/1");
        }
    }

    private static void mean() {
        CHECK.terms("Its MEAN is by all sets with their chances");
        DrawBench bench = three();
        for (int n = 1; n <= 3; n++) {
            bench.draw(0, n);
            meanIs(bench, "3/1");
            bench.draw(4, n);
            meanIs(bench, "3/1");
            CHECK.due("STEPS", bench.draw(2, n), 0);
            meanIs(bench, "3/1");
        }
        CHECK.promise(14, "The RESULT is the MEAN.");
        bench.draw(0, 0);
        meanIs(bench, "0/1");
        DrawBench never = withOneNeverDrawn();
        never.draw(3, 0);
        meanIs(never, "-10/1");
        never.draw(1, 0);
        meanIs(never, "0/1");
        never.drawn(0, 1);
        meanIs(never, "10/1");
        never.drawn(1, 1);
        meanIs(never, "0/1");
        never.drawn(0, 0);
        meanIs(never, "-10/1");
    }

    private static void spread() {
        CHECK.terms("its SPREAD is the mean of the square of what it is off its MEAN.");
        // two of 1, -2, 4: the told sums -3/2, 15/2, 3 are off 3 by 9/2, 9/2 and 0
        DrawBench alike = three();
        alike.draw(0, 2);
        spreadIs(alike, "27/2");
        // 15 with a chance of 1/3, 21/2 with 2/3, their MEAN 12
        DrawBench steps = Check.benchOf(5, 1, 0, 0, 7, 2, 0, 0);
        steps.draw(2, 1);
        spreadIs(steps, "9/2");
        DrawBench weighed = Check.benchOf(10, 1, 0, 0, 20, 2, 0, 0, 30, 3, 0, 0);
        weighed.draw(4, 2);
        spreadIs(weighed, "30/1");
        DrawBench never = withOneNeverDrawn();
        never.draw(3, 0);
        spreadIs(never, "400/1");
        never.drawn(1, 1);
        never.draw(1, 0);
        spreadIs(never, "2500/1");
    }

    private static void spreadOfNothing() {
        CHECK.promise(15, "The RESULT is the SPREAD.");
        DrawBench bench = three();
        for (int kind : new int[] {0, 4}) {
            bench.draw(kind, 0);
            spreadIs(bench, "0/1");
            bench.draw(kind, 3);
            spreadIs(bench, "0/1");
        }
        bench.draw(2, 3);
        spreadIs(bench, "0/1");
        bench.draw(1, 0);
        spreadIs(bench, "0/1");
        bench.draw(3, 0);
        spreadIs(bench, "0/1");
        spreadIs(new DrawBench(), "0/1");
        // a WORTH as its CHANCE is: whatever is drawn, the told sum is the same
        DrawBench even = Check.benchOf(10, 1, 0, 0, 20, 2, 0, 0, 30, 3, 0, 0);
        even.draw(2, 1);
        spreadIs(even, "0/1");
    }

    /** WEIGHED draws of many of ten have the longest tops and bottoms. */
    private static void longest() {
        CHECK.terms("All chances are exact fractions.");
        int[] sizes = {50, 49, 47, 43, 41, 37, 31, 29, 23, 39};
        int[] facts = new int[40];
        for (int i = 0; i < 10; i++) {
            facts[4 * i] = i % 2 == 0 ? 100 : -99;
            facts[4 * i + 1] = sizes[i];
        }
        Oracle oracle = new Oracle(facts);
        DrawBench bench = Check.benchOf(facts);
        for (int n = 7; n <= 10; n++) {
            Ratio[] chance = oracle.chances(4, n);
            Ratio[] told = oracle.toldSums(chance);
            bench.draw(4, n);
            sumIs(bench, 1023, told[1023].toString());
            spreadIs(bench, Oracle.spreadOf(chance, told).toString());
        }
    }
}
