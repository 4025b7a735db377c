import java.util.function.Supplier;

/**
 * All that a bench tells of its state, as one text. A bench is good for 512 calls, and to read a ROW
 * changes it: so each part is read from a bench of its own, and all of them are made alike.
 */
final class State {
    private static final int NAMES = 4;
    private static final int SETS = 1 << NAMES;
    private final StringBuilder text = new StringBuilder();

    static String of(Supplier<DrawBench> made) {
        State state = new State();
        state.resultAndCounts(made.get());
        state.sets(made.get());
        state.sums(made.get());
        state.pairs(made.get());
        state.wholes(made.get());
        state.heaps(made.get());
        state.bands(made.get());
        for (int slot = 0; slot < 8; slot++) {
            state.row(made.get(), slot);
        }
        return state.text.toString();
    }

    /** A bench of which every part is unlike a new one's; SLOT 4 has a ROW of none, 5 and 6 nothing. */
    static DrawBench busy(int kind) {
        DrawBench bench = new DrawBench();
        Check.lay(bench, 0, 0, 1, -9, 2, 3, 40);
        Check.lay(bench, 1, 1, 2, 8, 3, 1, 5, -7, 4, 2, 6);
        bench.row(2, 2, 60);
        Check.fill(bench, 2, 3, 1, 9, 0, 1, 2, 8, 1, 2, 3, 7, 2, 3);
        Check.lay(bench, 3, 3, 1, 99, 50, 3, 100);
        bench.row(4, 1, 0);
        Check.lay(bench, 7, 1, Check.rowOf(
            10, 3, 0, 20, -21, 2, 0, 30, 35, 4, 2, 100, 4, 3, 3, 75));
        bench.crowd(7);
        bench.drawn(0, 1);
        bench.drawn(2, 1);
        bench.draw(4, 2);
        bench.sum(2);
        bench.draw(kind, 2);
        bench.sets();
        return bench;
    }

    private void tell(String what, long answer) {
        text.append(what).append(' ').append(answer).append('\n');
    }

    private void tell(String what, boolean answer, DrawBench bench) {
        text.append(what).append(' ').append(answer).append(' ').append(Check.resultOf(bench)).append('\n');
    }

    private void resultAndCounts(DrawBench bench) {
        text.append(Check.resultOf(bench)).append('\n');
        for (int what = 0; what < 4; what++) {
            tell("count " + what, bench.count(what));
            tell("names of heap " + what, bench.count(10 + what));
            tell("drawn of heap " + what, bench.count(20 + what));
        }
    }

    private void sets(DrawBench bench) {
        for (int set = 0; set <= SETS; set++) {
            tell("set " + set, bench.set(set), bench);
        }
    }

    private void sums(DrawBench bench) {
        for (int set = 0; set <= SETS; set++) {
            tell("sum " + set, bench.sum(set), bench);
        }
    }

    private void pairs(DrawBench bench) {
        for (int i = 0; i < NAMES; i++) {
            tell("chance " + i, bench.chance(i), bench);
            for (int j = 0; j < NAMES; j++) {
                tell("both " + i + " " + j, bench.both(i, j), bench);
            }
        }
    }

    private void wholes(DrawBench bench) {
        tell("sets", bench.sets());
        bench.many();
        tell("many", true, bench);
        bench.mean();
        tell("mean", true, bench);
        bench.spread();
        tell("spread", true, bench);
    }

    private void heaps(DrawBench bench) {
        for (int heap = 0; heap < 4; heap++) {
            tell("heap " + heap, bench.heap(heap), bench);
            for (int t = 0; t <= NAMES + 1; t++) {
                tell("share " + t + " " + heap, bench.share(t, heap));
            }
        }
        for (int t = 0; t <= NAMES + 1; t++) {
            tell("least " + t, bench.least(t), bench);
        }
    }

    private void bands(DrawBench bench) {
        for (int k = 0; k <= NAMES + 1; k++) {
            tell("bands " + k, bench.bands(k));
            for (int i = 0; i < NAMES; i++) {
                tell("band " + k + " " + i, bench.band(k, i));
            }
        }
    }

    /** The numbers by the CROWD that they tell, the WIDTH by what is cut off, then the length. */
    private void row(DrawBench bench, int slot) {
        int names = bench.crowd(slot);
        tell("crowd of slot " + slot, names);
        for (int i = 0; i < names && i < NAMES; i++) {
            bench.draw(0, names);
            tell("worth", bench.sum(1 << i), bench);
            bench.draw(4, 1);
            tell("part of all sizes", bench.chance(i), bench);
            bench.draw(3, 0);
            tell("share", bench.chance(i), bench);
        }
        for (int heap = 0; heap < 4; heap++) {
            tell("names of heap " + heap, bench.count(10 + heap));
        }
        for (int bits = 8; bits < 64; bits *= 2) {
            tell("write", bench.write(slot, 1, (1L << bits) + 5));
            tell("crowd", bench.crowd(slot));
        }
        int length = 0;
        for (int i = 0; i <= 60; i++) {
            length += bench.write(slot, i, 0) == 0 ? 1 : 0;
        }
        tell("length", length);
    }
}
