import java.util.Random;

/** Crowds of all sizes, made by a fixed seed, against the oracle: promises 5 to 20. */
public final class CrossTest {
    private static final int[] SPAN = {201, 50, 4, 101};
    private static final int[] LOWEST = {-100, 1, 0, 0};
    private static final Check CHECK = new Check();

    public static void main(String[] args) {
        Random random = new Random(20261116);
        for (int round = 0; round < 120; round++) {
            tryCrowd(random, randomFacts(random, 1 + round % 10, round));
        }
        tryCrowd(random, largeFacts());
        CHECK.end("CrossTest");
    }

    private static int[] randomFacts(Random random, int names, int round) {
        int[] facts = new int[4 * names];
        // few different values make the ties that the document decides
        int coarse = round % 3 == 0 ? 25 : 1;
        for (int i = 0; i < facts.length; i++) {
            int v = LOWEST[i % 4] + random.nextInt(SPAN[i % 4]);
            facts[i] = i % 4 == 1 ? Math.max(1, v / coarse * coarse) : i % 4 == 2 ? v : v / coarse * coarse;
        }
        return facts;
    }

    /** SIZES that share no factors, so that tops and bottoms grow as long as they can. */
    private static int[] largeFacts() {
        int[] sizes = {50, 49, 47, 43, 41, 37, 31, 29, 23, 39};
        int[] shares = {99, 97, 91, 89, 83, 1, 3, 7, 9, 11};
        int[] facts = new int[40];
        for (int i = 0; i < 10; i++) {
            facts[4 * i] = i % 2 == 0 ? 100 - i : i - 100;
            facts[4 * i + 1] = sizes[i];
            facts[4 * i + 2] = i % 4;
            facts[4 * i + 3] = shares[i];
        }
        return facts;
    }

    private static void tryCrowd(Random random, int[] facts) {
        Oracle oracle = new Oracle(facts);
        tryHeapsAndBands(oracle, Check.benchOf(facts));
        for (int h = 0; h < 4; h++) {
            oracle.drawn[h] = random.nextInt(oracle.heapNames(h) + 1);
        }
        tryDraw(oracle, facts, random, 1, 0);
        tryDraw(oracle, facts, random, 3, 0);
        for (int n = -1; n <= oracle.names + 1; n++) {
            tryDraw(oracle, facts, random, 0, n);
            tryDraw(oracle, facts, random, 2, n);
            tryDraw(oracle, facts, random, 4, n);
        }
    }

    private static void tryDraw(Oracle oracle, int[] facts, Random random, int kind, int n) {
        String of = "draw(" + kind + ", " + n + ") of " + oracle.names + ": ";
        if (!oracle.mayDraw(kind, n)) {
            CHECK.due(of, Check.benchOf(facts).draw(kind, n), -4);
            return;
        }
        Ratio[] chance = oracle.chances(kind, n);
        Ratio[] told = oracle.toldSums(chance);
        for (int k = 0; k < 3; k++) {
            DrawBench bench = drawnBench(of, oracle, facts, kind, n);
            trySet(of, bench, random.nextInt(chance.length), chance, told);
            tryPair(of, bench, oracle, random, chance);
        }
        tryWhole(of, drawnBench(of, oracle, facts, kind, n), oracle, chance, told);
    }

    /** A new bench each time keeps every run under the 512 calls that are promised. */
    private static DrawBench drawnBench(String of, Oracle oracle, int[] facts, int kind, int n) {
        DrawBench bench = Check.benchOf(facts);
        for (int h = 0; h < 4; h++) {
            CHECK.due("drawn", bench.drawn(h, oracle.drawn[h]), 0);
        }
        CHECK.due(of, bench.draw(kind, n), 0);
        return bench;
    }

    private static void trySet(String of, DrawBench bench, int set, Ratio[] chance, Ratio[] told) {
        CHECK.due(of + "set", bench.set(set), true);
        CHECK.result(of + "set " + set, bench, chance[set]);
        CHECK.due(of + "sum", bench.sum(set), true);
        CHECK.result(of + "sum " + set, bench, told[set]);
    }

    private static void tryPair(
        String of, DrawBench bench, Oracle oracle, Random random, Ratio[] chance) {
        int i = random.nextInt(oracle.names);
        int j = random.nextInt(oracle.names);
        CHECK.due(of + "chance", bench.chance(i), true);
        CHECK.result(of + "chance " + i, bench, oracle.both(chance, i, i));
        CHECK.due(of + "both", bench.both(i, j), true);
        CHECK.result(of + "both " + i + " " + j, bench, oracle.both(chance, i, j));
    }

    private static void tryWhole(
        String of, DrawBench bench, Oracle oracle, Ratio[] chance, Ratio[] told) {
        CHECK.due(of + "sets", bench.sets(), oracle.sets(chance));
        bench.sum(chance.length - 1);
        CHECK.result(of + "sum of all", bench, told[chance.length - 1]);
        bench.many();
        CHECK.result(of + "many", bench, oracle.many(chance));
        bench.mean();
        CHECK.result(of + "mean", bench, Oracle.meanOf(chance, told));
        bench.spread();
        CHECK.result(of + "spread", bench, Oracle.spreadOf(chance, told));
    }

    private static void tryHeapsAndBands(Oracle oracle, DrawBench bench) {
        for (int h = 0; h < 4; h++) {
            CHECK.due("heap", bench.heap(h), true);
            CHECK.result("heap " + h, bench, oracle.heapSpread(h));
        }
        for (int t = 0; t <= oracle.names + 1; t++) {
            boolean may = oracle.mayShareOut(t);
            CHECK.due("least " + t, bench.least(t), may);
            int[] shared = may ? oracle.sharedOut(t) : new int[] {-4, -4, -4, -4};
            if (may) {
                CHECK.result("least " + t, bench, oracle.sharingSum(shared));
            }
            for (int h = 0; h < 4; h++) {
                CHECK.due("share " + t + " " + h, bench.share(t, h), shared[h]);
            }
        }
        for (int k = 1; k <= oracle.names; k++) {
            int[] lengths = oracle.bandLengths(k);
            CHECK.due("bands " + k, bench.bands(k), oracle.bandSum(lengths));
            for (int i = 0; i < oracle.names; i++) {
                CHECK.due("band " + k + " " + i, bench.band(k, i), oracle.bandOf(lengths, i));
            }
        }
    }
}
