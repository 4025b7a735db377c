import java.util.Random;

/** Runs of 512 calls with arguments of all kinds, made by fixed seeds: each answer against the Model. */
public final class RunsTest {
    private static final int RUNS = 300;
    private static final int LAST_CALL = 512;
    private static final int[] LOWEST = {-100, 1, 0, 0};
    private static final int[] HIGHEST = {100, 50, 3, 100};
    private static final Check CHECK = new Check();

    private final Random random;
    private final int mostNames;
    private final DrawBench bench = new DrawBench();
    private final Model model = new Model();
    private int calls;

    private RunsTest(int run) {
        random = new Random(20261117L + run);
        // few runs with large crowds, as the Model looks at every set of NAMES
        mostNames = run % 20 == 0 ? 10 : 5;
    }

    public static void main(String[] args) {
        for (int run = 0; run < RUNS; run++) {
            new RunsTest(run).play();
        }
        CHECK.end("RunsTest");
    }

    private void play() {
        while (calls < LAST_CALL) {
            int which = random.nextInt(100);
            if (which < 2) {
                tellCrowd();
            } else if (which < 20) {
                change(random.nextInt(6));
            } else if (which < 60) {
                ask(random.nextInt(13));
            } else {
                look(random.nextInt(3));
            }
        }
    }

    private void due(String call, long got, long want) {
        if (++calls <= LAST_CALL) {
            CHECK.due("call " + calls + ": " + call, got, want);
        }
    }

    private void due(String call, boolean got, boolean want) {
        due(call, got ? 1 : 0, want ? 1 : 0);
    }

    /** Mostly inside, else just outside or as far outside as can be. */
    private int near(int lowest, int highest) {
        if (random.nextInt(9) > 0) {
            return lowest + random.nextInt(highest - lowest + 1);
        }
        return Check.outside(lowest, highest)[random.nextInt(4)];
    }

    /** A ROW that tells a CROWD, but for one of four, in which some number is anything. */
    private void tellCrowd() {
        int names = 1 + random.nextInt(mostNames);
        int slot = random.nextInt(8);
        row(slot, random.nextInt(4), Math.min(60, 4 * names + 1 + random.nextInt(3)));
        write(slot, 0, names);
        for (int i = 0; i < 4 * names; i++) {
            int lowest = LOWEST[i % 4];
            write(slot, i + 1, lowest + random.nextInt(HIGHEST[i % 4] - lowest + 1));
        }
        if (random.nextInt(4) == 0) {
            write(slot, near(0, 4 * names), anyNumber());
        }
        crowd(slot);
    }

    private long anyNumber() {
        long[] numbers = {
            Long.MIN_VALUE, Long.MAX_VALUE, random.nextLong(), random.nextInt(), random.nextInt(256),
            (1L << (8 << random.nextInt(3))) + random.nextInt(9) - 4, -101, -1, 0, 1, 3, 4, 50, 51, 101};
        return numbers[random.nextInt(numbers.length)];
    }

    private void row(int slot, int width, int n) {
        due("row(" + slot + ", " + width + ", " + n + ")", bench.row(slot, width, n), model.row(slot, width, n));
    }

    private void write(int slot, int i, long v) {
        due("write(" + slot + ", " + i + ", " + v + ")", bench.write(slot, i, v), model.write(slot, i, v));
    }

    private void crowd(int slot) {
        due("crowd(" + slot + ")", bench.crowd(slot), model.crowd(slot));
    }

    private void change(int which) {
        int slot = near(0, 7);
        int heap = near(0, 3);
        int kind = near(0, 4);
        int n = near(0, model.count(0));
        switch (which) {
            case 0 -> row(slot, near(0, 3), near(0, 60));
            case 1 -> due("tear(" + slot + ")", bench.tear(slot), model.tear(slot));
            case 2 -> write(slot, near(0, 59), anyNumber());
            case 3 -> crowd(slot);
            case 4 -> due("drawn(" + heap + ", " + n + ")", bench.drawn(heap, n), model.drawn(heap, n));
            default -> due("draw(" + kind + ", " + n + ")", bench.draw(kind, n), model.draw(kind, n));
        }
    }

    private void ask(int which) {
        int i = near(0, model.count(0) - 1);
        int j = near(0, model.count(0) - 1);
        int set = near(0, (1 << model.count(0)) - 1);
        int heap = near(0, 3);
        int t = near(1, model.count(0));
        switch (which) {
            case 0 -> due("chance(" + i + ")", bench.chance(i), model.chance(i));
            case 1 -> due("both(" + i + ", " + j + ")", bench.both(i, j), model.both(i, j));
            case 2 -> due("set(" + set + ")", bench.set(set), model.set(set));
            case 3 -> due("sets()", bench.sets(), model.sets());
            case 4 -> due("sum(" + set + ")", bench.sum(set), model.sum(set));
            case 5 -> due("heap(" + heap + ")", bench.heap(heap), model.heap(heap));
            case 6 -> due("share(" + t + ", " + heap + ")", bench.share(t, heap), model.share(t, heap));
            case 7 -> due("least(" + t + ")", bench.least(t), model.least(t));
            case 8 -> due("bands(" + t + ")", bench.bands(t), model.bands(t));
            case 9 -> due("band(" + t + ", " + i + ")", bench.band(t, i), model.band(t, i));
            case 10 -> told("many", bench::many, model::many);
            case 11 -> told("mean", bench::mean, model::mean);
            default -> told("spread", bench::spread, model::spread);
        }
    }

    /** A call without an answer is followed by one that tells what it did. */
    private void told(String call, Runnable ofBench, Runnable ofModel) {
        ofBench.run();
        ofModel.run();
        calls++;
        due("look(0) after " + call, bench.look(0), model.look(0));
    }

    private void look(int which) {
        int what = which == 0 ? near(0, 2) : near(0, 25);
        boolean bottom = random.nextBoolean();
        int i = random.nextInt(4) > 0 ? near(0, 2) : near(0, 21);
        switch (which) {
            case 0 -> due("look(" + what + ")", bench.look(what), model.look(what));
            case 1 -> due("count(" + what + ")", bench.count(what), model.count(what));
            default -> due("part(" + bottom + ", " + i + ")", bench.part(bottom, i), model.part(bottom, i));
        }
    }
}
