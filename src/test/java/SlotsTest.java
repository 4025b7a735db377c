/** Promises 1 to 5: a new object, row, tear, write, crowd. */
public final class SlotsTest {
    private static final Check CHECK = new Check();

    public static void main(String[] args) {
        newObject();
        row();
        tear();
        write();
        widths();
        crowdRefused();
        crowdLimits();
        crowdReplaces();
        crowdKeepsWhatItRefuses();
        CHECK.end("SlotsTest");
    }

    private static void newObject() {
        DrawBench bench = new DrawBench();
        CHECK.result("a new object", bench, "0/1");
        CHECK.due("look(0)", bench.look(0), 0);
        CHECK.due("look(1)", bench.look(1), 1);
        CHECK.due("look(2)", bench.look(2), 1);
        CHECK.due("count(0)", bench.count(0), 1);
        CHECK.due("count(1)", bench.count(1), 0);
        CHECK.due("count(2)", bench.count(2), 1);
        CHECK.due("count(3)", bench.count(3), 0);
        for (int heap = 0; heap < 4; heap++) {
            CHECK.due("count of a heap", bench.count(10 + heap), heap == 0 ? 1 : 0);
            CHECK.due("drawn of a heap", bench.count(20 + heap), 0);
        }
        for (int slot = 0; slot < 8; slot++) {
            CHECK.due("tear", bench.tear(slot), false);
            CHECK.due("write", bench.write(slot, 0, 0), -5);
            CHECK.due("crowd", bench.crowd(slot), -5);
        }
        bench.chance(0);
        CHECK.result("chance", bench, "1/1");
        bench.mean();
        CHECK.result("mean", bench, "0/1");
        CHECK.due("STEPS of SIZE 1", bench.draw(2, 1), 0);
        bench.set(1);
        CHECK.result("set by STEPS", bench, "1/1");
        CHECK.due("drawn of HEAP 0", bench.drawn(0, 1), 0);
        CHECK.due("HEAPS", bench.draw(1, 0), 0);
        bench.chance(0);
        CHECK.result("chance by HEAPS", bench, "1/1");
        CHECK.due("OWN", bench.draw(3, 0), 0);
        CHECK.due("sets of SHARE 0", bench.sets(), 1);
        bench.chance(0);
        CHECK.result("chance of SHARE 0", bench, "0/1");
        CHECK.due("bands", bench.bands(1), 0);
    }

    private static void row() {
        DrawBench bench = new DrawBench();
        for (int slot = 0; slot < 8; slot++) {
            CHECK.due("row", bench.row(slot, slot % 4, slot * 8), 0);
            CHECK.due("slots", bench.count(3), slot + 1);
            CHECK.due("beyond the row", bench.write(slot, slot * 8, 1), -6);
        }
        CHECK.due("row(7, 3, 60)", bench.row(7, 3, 60), 0);
        CHECK.due("the last", bench.write(7, 59, 1), 0);
        CHECK.due("beyond", bench.write(7, 60, 1), -6);
        CHECK.due("in place of another", bench.count(3), 8);
        CHECK.due("row(-1, 0, 1)", bench.row(-1, 0, 1), -2);
        CHECK.due("row(8, 0, 1)", bench.row(8, 0, 1), -2);
        CHECK.due("row(0, -1, 1)", bench.row(0, -1, 1), -2);
        CHECK.due("row(0, 4, 1)", bench.row(0, 4, 1), -2);
        CHECK.due("row(0, 0, 61)", bench.row(0, 0, 61), -2);
        CHECK.due("row(0, 0, max)", bench.row(0, 0, Integer.MAX_VALUE), -2);
        CHECK.due("row(0, 0, -1)", bench.row(0, 0, -1), -3);
        CHECK.due("row(0, 0, min)", bench.row(0, 0, Integer.MIN_VALUE), -3);
        CHECK.due("row(8, 0, -1)", bench.row(8, 0, -1), -2);
        CHECK.due("row(0, 4, -1)", bench.row(0, 4, -1), -2);
        rowIsAllZero();
        refusedRowKeepsTheOldOne();
    }

    private static void rowIsAllZero() {
        DrawBench bench = new DrawBench();
        bench.row(2, 0, 5);
        bench.write(2, 0, 1);
        bench.write(2, 2, 7);
        CHECK.due("a crowd of one", bench.crowd(2), 1);
        CHECK.due("anew", bench.row(2, 0, 5), 0);
        CHECK.due("no names", bench.crowd(2), -4);
        bench.write(2, 0, 1);
        CHECK.due("a size of 0", bench.crowd(2), -4);
        bench.row(2, 0, 5);
        bench.write(2, 2, 7);
        CHECK.due("no names, a size", bench.crowd(2), -4);
        bench.write(2, 0, 1);
        bench.write(2, 1, 9);
        bench.write(2, 3, 3);
        bench.write(2, 4, 100);
        bench.row(2, 0, 5);
        bench.write(2, 0, 1);
        bench.write(2, 2, 7);
        CHECK.due("WORTH, HEAP and SHARE of 0", bench.crowd(2), 1);
        bench.mean();
        CHECK.result("WORTH", bench, "0/1");
        CHECK.due("HEAP", bench.count(10), 1);
        bench.draw(3, 0);
        bench.chance(0);
        CHECK.result("SHARE", bench, "0/1");
    }

    private static void refusedRowKeepsTheOldOne() {
        DrawBench bench = new DrawBench();
        bench.row(2, 0, 5);
        bench.write(2, 0, 1);
        bench.write(2, 2, 7);
        bench.row(2, 0, 61);
        bench.row(2, 4, 5);
        bench.row(2, 0, -1);
        CHECK.due("the row is still there", bench.crowd(2), 1);
    }

    private static void tear() {
        DrawBench bench = new DrawBench();
        bench.row(0, 0, 0);
        bench.row(7, 3, 60);
        CHECK.due("tear(-1)", bench.tear(-1), false);
        CHECK.due("tear(8)", bench.tear(8), false);
        CHECK.due("tear(min)", bench.tear(Integer.MIN_VALUE), false);
        CHECK.due("tear(1)", bench.tear(1), false);
        CHECK.due("both stand", bench.count(3), 2);
        CHECK.due("tear(0), a row of none", bench.tear(0), true);
        CHECK.due("tear(0) again", bench.tear(0), false);
        CHECK.due("one stands", bench.count(3), 1);
        CHECK.due("tear(7)", bench.tear(7), true);
        CHECK.due("write(7)", bench.write(7, 0, 0), -5);
        CHECK.due("crowd(7)", bench.crowd(7), -5);
        CHECK.due("none stands", bench.count(3), 0);
    }

    private static void write() {
        DrawBench bench = new DrawBench();
        bench.row(3, 0, 2);
        CHECK.due("write(-1)", bench.write(-1, 0, 0), -2);
        CHECK.due("write(8)", bench.write(8, -1, 0), -2);
        CHECK.due("write(max)", bench.write(Integer.MAX_VALUE, 0, 0), -2);
        CHECK.due("write to nothing", bench.write(4, -1, 0), -5);
        CHECK.due("write(3, -1)", bench.write(3, -1, 0), -6);
        CHECK.due("write(3, 2)", bench.write(3, 2, 0), -6);
        CHECK.due("write(3, min)", bench.write(3, Integer.MIN_VALUE, 0), -6);
        CHECK.due("write(3, max)", bench.write(3, Integer.MAX_VALUE, 0), -6);
        CHECK.due("write(3, 1)", bench.write(3, 1, Long.MIN_VALUE), 0);
        bench.row(3, 0, 0);
        CHECK.due("write to a row of none", bench.write(3, 0, 0), -6);
    }

    /** What a number becomes is seen by the WORTH that a CROWD takes from it. */
    private static void widths() {
        long[] range = {1L << 8, 1L << 16, 1L << 32};
        for (int width = 0; width < 4; width++) {
            worthOf(width, 100, "100/1");
            worthOf(width, -100, "-100/1");
            if (width < 3) {
                worthOf(width, range[width] + 5, "5/1");
                worthOf(width, range[width] - 7, "-7/1");
                worthOf(width, -range[width] + 9, "9/1");
                worthOf(width, 3 * range[width], "0/1");
                worthOf(width, Long.MIN_VALUE, "0/1");
                worthOf(width, Long.MAX_VALUE, "-1/1");
                worthOf(width, range[width] / 2 - 1, null);
                worthOf(width, -range[width] / 2, null);
                worthOf(width, range[width] / 2, null);
            } else {
                worthOf(width, (1L << 32) + 5, null);
                worthOf(width, Long.MAX_VALUE, null);
                worthOf(width, Long.MIN_VALUE, null);
            }
        }
    }

    private static void worthOf(int width, long v, String want) {
        DrawBench bench = new DrawBench();
        bench.row(5, width, 5);
        bench.write(5, 0, 1);
        bench.write(5, 2, 1);
        bench.write(5, 1, v);
        CHECK.due("crowd by width " + width + " of " + v, bench.crowd(5), want == null ? -4 : 1);
        if (want != null) {
            bench.mean();
            CHECK.result("worth by width " + width + " of " + v, bench, want);
        }
    }

    private static void crowdRefused() {
        DrawBench bench = new DrawBench();
        CHECK.due("crowd(-1)", bench.crowd(-1), -2);
        CHECK.due("crowd(8)", bench.crowd(8), -2);
        CHECK.due("crowd(0), nothing", bench.crowd(0), -5);
        bench.row(0, 3, 0);
        CHECK.due("a row of none", bench.crowd(0), -6);
        bench.row(0, 3, 1);
        CHECK.due("0 names", bench.crowd(0), -4);
        bench.write(0, 0, 11);
        CHECK.due("11 names", bench.crowd(0), -4);
        bench.write(0, 0, -1);
        CHECK.due("-1 names", bench.crowd(0), -4);
        bench.write(0, 0, (1L << 32) + 1);
        CHECK.due("names beyond an int", bench.crowd(0), -4);
        bench.write(0, 0, 1);
        CHECK.due("a name without numbers", bench.crowd(0), -6);
        crowdRefusedInOrder();
    }

    /** A number that is amiss comes ahead of the ROW's end, and the end ahead of all behind it. */
    private static void crowdRefusedInOrder() {
        for (int length = 1; length <= 9; length++) {
            for (int bad = 1; bad <= 8; bad++) {
                DrawBench bench = new DrawBench();
                bench.row(0, 1, length);
                bench.write(0, 0, 2);
                for (int i = 1; i < length; i++) {
                    bench.write(0, i, i == bad ? -101 : 1);
                }
                int want = bad < length ? -4 : length < 9 ? -6 : 2;
                CHECK.due("crowd of " + length + ", amiss " + bad, bench.crowd(0), want);
            }
        }
    }

    private static void crowdLimits() {
        long[][] limits = {{1, 10}, {-100, 100}, {1, 50}, {0, 3}, {0, 100}};
        for (int i = 1; i < 5; i++) {
            CHECK.due("lowest " + i, crowdWith(i, limits[i][0]), 1);
            CHECK.due("below " + i, crowdWith(i, limits[i][0] - 1), -4);
            CHECK.due("highest " + i, crowdWith(i, limits[i][1]), 1);
            CHECK.due("above " + i, crowdWith(i, limits[i][1] + 1), -4);
            CHECK.due("far above " + i, crowdWith(i, (1L << 32) + 1), -4);
            CHECK.due("far below " + i, crowdWith(i, Long.MIN_VALUE), -4);
        }
    }

    private static int crowdWith(int i, long v) {
        DrawBench bench = new DrawBench();
        bench.row(1, 3, 5);
        bench.write(1, 0, 1);
        bench.write(1, 2, 1);
        bench.write(1, i, v);
        return bench.crowd(1);
    }

    private static void crowdReplaces() {
        DrawBench bench = Check.benchOf(1, 1, 0, 5, 2, 1, 0, 5, 3, 1, 3, 5);
        CHECK.due("names", bench.count(0), 3);
        bench.drawn(0, 2);
        bench.drawn(3, 1);
        bench.draw(4, 2);
        bench.spread();
        String result = Check.resultOf(bench);
        bench.row(0, 0, 60);
        bench.write(0, 0, 2);
        bench.write(0, 2, 1);
        bench.write(0, 3, 2);
        bench.write(0, 6, 1);
        CHECK.due("crowd of a longer row", bench.crowd(0), 2);
        CHECK.due("names", bench.count(0), 2);
        CHECK.due("kind", bench.count(1), 0);
        CHECK.due("n", bench.count(2), 1);
        int[] heaps = {1, 0, 1, 0};
        for (int heap = 0; heap < 4; heap++) {
            CHECK.due("names of a heap", bench.count(10 + heap), heaps[heap]);
            CHECK.due("drawn", bench.count(20 + heap), 0);
        }
        CHECK.result("crowd keeps it", bench, result);
        bench.write(0, 1, 50);
        bench.tear(0);
        bench.mean();
        CHECK.result("a crowd does not hang on its row", bench, "0/1");
    }

    private static void crowdKeepsWhatItRefuses() {
        DrawBench bench = Check.benchOf(10, 1, 0, 5, 20, 1, 1, 5);
        bench.drawn(1, 1);
        bench.draw(1, 0);
        bench.mean();
        bench.row(0, 0, 8);
        bench.write(0, 0, 2);
        bench.write(0, 1, 99);
        bench.write(0, 2, 1);
        bench.write(0, 6, 1);
        CHECK.due("too short", bench.crowd(0), -6);
        bench.write(0, 6, 0);
        CHECK.due("a size of 0", bench.crowd(0), -4);
        CHECK.result("the result", bench, "20/1");
        CHECK.due("names", bench.count(0), 2);
        CHECK.due("kind", bench.count(1), 1);
        CHECK.due("drawn", bench.count(21), 1);
        bench.draw(0, 2);
        bench.mean();
        CHECK.result("mean", bench, "30/1");
    }
}
