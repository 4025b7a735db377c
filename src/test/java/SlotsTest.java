/** Promises 1 to 4, and what "Terms" says of SLOTS, ROWS and WIDTHS. */
public final class SlotsTest {
    private static final int LAST_SLOT = 7;
    private static final int LONGEST = 60;
    private static final Check CHECK = new Check();

    public static void main(String[] args) {
        newCrowd();
        newDraw();
        newSlots();
        newResult();
        rowOfLength();
        rowIsAllZero();
        rowInPlaceOfAnother();
        rowRefused();
        tornRow();
        tearRefused();
        writeEachNumber();
        writeTouchesNoOther();
        writeCutsToWidth();
        writeAtTheEndsOfWidths();
        writeRefused();
        CHECK.end("SlotsTest");
    }

    private static void newCrowd() {
        CHECK.promise(1, "A CROWD of one NAME");
        DrawBench bench = new DrawBench();
        CHECK.due("count(0)", bench.count(0), 1);
        CHECK.due("chance(1)", bench.chance(1), false);
        CHECK.due("set(2)", bench.set(2), false);
        CHECK.promise(1, "of WORTH 0, SIZE 1, HEAP 0, SHARE 0");
        bench.mean();
        CHECK.result("mean, by WORTH", bench, "0/1");
        bench.sum(1);
        CHECK.result("sum, by WORTH", bench, "0/1");
        CHECK.due("STEPS, by SIZE", bench.draw(2, 1), 0);
        bench.set(1);
        CHECK.result("set by STEPS", bench, "1/1");
        CHECK.due("WEIGHED, by SIZE", bench.draw(4, 1), 0);
        bench.set(1);
        CHECK.result("set by WEIGHED", bench, "1/1");
        int[] namesOfHeap = {1, 0, 0, 0};
        for (int heap = 0; heap < 4; heap++) {
            CHECK.due("count of HEAP " + heap, bench.count(10 + heap), namesOfHeap[heap]);
        }
        bench.draw(3, 0);
        bench.chance(0);
        CHECK.result("chance, by SHARE", bench, "0/1");
        CHECK.due("bands(1)", bench.bands(1), 0);
        CHECK.due("share(1, 0)", bench.share(1, 0), 1);
    }

    private static void newDraw() {
        CHECK.promise(1, "the DRAW is ALIKE, 1");
        DrawBench bench = new DrawBench();
        CHECK.due("count(1)", bench.count(1), 0);
        CHECK.due("count(2)", bench.count(2), 1);
        CHECK.due("sets()", bench.sets(), 1);
        bench.chance(0);
        CHECK.result("chance(0)", bench, "1/1");
        bench.set(0);
        CHECK.result("set(0)", bench, "0/1");
        CHECK.terms("each HEAP has a number of DRAWN (0 at first)");
        for (int heap = 0; heap < 4; heap++) {
            CHECK.due("DRAWN of HEAP " + heap, bench.count(20 + heap), 0);
        }
        bench.draw(1, 1);
        CHECK.due("all DRAWN", bench.count(2), 0);
        bench.set(0);
        CHECK.result("set(0) by HEAPS", bench, "1/1");
    }

    private static void newSlots() {
        CHECK.promise(1, "SLOTS are empty");
        DrawBench bench = new DrawBench();
        CHECK.due("count(3)", bench.count(3), 0);
        for (int slot = 0; slot <= LAST_SLOT; slot++) {
            CHECK.due("tear " + slot, bench.tear(slot), false);
            CHECK.due("write " + slot, bench.write(slot, 0, 0), -5);
            CHECK.due("crowd " + slot, bench.crowd(slot), -5);
        }
    }

    private static void newResult() {
        CHECK.promise(1, "the RESULT is 0 / 1");
        DrawBench bench = new DrawBench();
        CHECK.due("look(0)", bench.look(0), 0);
        CHECK.due("look(1)", bench.look(1), 1);
        CHECK.due("look(2)", bench.look(2), 1);
        CHECK.due("part(false, 0)", bench.part(false, 0), 0);
        CHECK.due("part(true, 0)", bench.part(true, 0), 1);
        CHECK.due("part(true, 1)", bench.part(true, 1), 0);
    }

    private static void rowOfLength() {
        CHECK.promise(2, "A SLOT has a ROW of n numbers of that WIDTH");
        DrawBench bench = new DrawBench();
        for (int slot = 0; slot <= LAST_SLOT; slot++) {
            int n = slot == LAST_SLOT ? LONGEST : slot * 8;
            CHECK.due("row " + slot, bench.row(slot, slot % 4, n), 0);
            CHECK.due("SLOTS with a ROW", bench.count(3), slot + 1);
            if (n > 0) {
                CHECK.due("the first of " + n, bench.write(slot, 0, 1), 0);
                CHECK.due("the last of " + n, bench.write(slot, n - 1, 1), 0);
            }
            CHECK.due("beyond the last of " + n, bench.write(slot, n, 1), -6);
        }
        CHECK.terms("SLOTS 0 to 7 have ROWS of numbers [..] at most 60, or nothing.");
        CHECK.due("a ROW of 0 numbers is a ROW", bench.row(0, 3, 0), 0);
        CHECK.due("count(3)", bench.count(3), 8);
        CHECK.due("crowd(0)", bench.crowd(0), -6);
        CHECK.due("tear(0)", bench.tear(0), true);
        CHECK.due("count(3) then", bench.count(3), 7);
        CHECK.due("crowd(0) of nothing", bench.crowd(0), -5);
    }

    /** A CROWD reads the first 41 numbers; with SIZES and how many NAMES written anew the rest is told. */
    private static void rowIsAllZero() {
        CHECK.promise(2, "all 0 (in place of another one)");
        for (int width = 0; width < 4; width++) {
            DrawBench bench = new DrawBench();
            Check.lay(bench, 2, 3, Check.rowOf(Check.alike(10, 9, 7, 3, 100)));
            bench.row(2, width, LONGEST);
            CHECK.due("how many NAMES", bench.crowd(2), -4);
            bench.write(2, 0, 10);
            CHECK.due("a SIZE", bench.crowd(2), -4);
            for (int i = 0; i < 10; i++) {
                bench.write(2, 2 + 4 * i, 1);
            }
            CHECK.due("crowd", bench.crowd(2), 10);
            CHECK.due("NAMES of HEAP 0", bench.count(10), 10);
            bench.draw(0, 10);
            for (int i = 0; i < 10; i++) {
                bench.sum(1 << i);
                CHECK.result("WORTH " + i, bench, "0/1");
            }
            bench.draw(3, 0);
            bench.set(0);
            CHECK.result("all SHARES", bench, "1/1");
        }
        DrawBench bench = new DrawBench();
        Check.lay(bench, 2, 0, 1, 9, 7, 3, 100);
        bench.row(2, 0, 5);
        bench.write(2, 2, 7);
        CHECK.due("how many NAMES, with a SIZE", bench.crowd(2), -4);
        Check.lay(bench, 2, 0, 1, 9, 7, 3, 100);
        bench.row(2, 0, 2);
        bench.row(2, 0, 5);
        Check.fill(bench, 2, 1, 9);
        CHECK.due("a SIZE that a shorter ROW has cut off", bench.crowd(2), -4);
        Check.lay(bench, 2, 0, 1, 9, 7, 3, 100);
        bench.tear(2);
        bench.row(2, 0, 5);
        Check.fill(bench, 2, 1, 9);
        CHECK.due("a SIZE that was torn", bench.crowd(2), -4);
    }

    private static void rowInPlaceOfAnother() {
        CHECK.promise(2, "(in place of another one): 0");
        DrawBench bench = new DrawBench();
        bench.row(1, 0, 9);
        CHECK.due("longer", bench.row(1, 0, LONGEST), 0);
        CHECK.due("its last", bench.write(1, 59, 0), 0);
        CHECK.due("shorter", bench.row(1, 0, 5), 0);
        CHECK.due("beyond it", bench.write(1, 5, 0), -6);
        CHECK.due("wider", bench.row(1, 3, 5), 0);
        Check.fill(bench, 1, 1, 256 + 5, 1);
        CHECK.due("nothing is cut off", bench.crowd(1), -4);
        CHECK.due("narrower", bench.row(1, 0, 5), 0);
        Check.fill(bench, 1, 1, 256 + 5, 1);
        CHECK.due("cut off", bench.crowd(1), 1);
        CHECK.due("one ROW", bench.count(3), 1);
        CHECK.due("of none", bench.row(1, 0, 0), 0);
        CHECK.due("still one ROW", bench.count(3), 1);
    }

    private static void rowRefused() {
        CHECK.promise(2, "-2: there is no such SLOT");
        DrawBench bench = new DrawBench();
        for (int slot : Check.outside(0, LAST_SLOT)) {
            CHECK.due("row of SLOT " + slot, bench.row(slot, 0, 1), -2);
        }
        CHECK.due("SLOT 0", bench.row(0, 0, 1), 0);
        CHECK.due("SLOT 7", bench.row(LAST_SLOT, 0, 1), 0);
        CHECK.promise(2, "-2: there is no such [..] WIDTH");
        for (int width : Check.outside(0, 3)) {
            CHECK.due("row of WIDTH " + width, bench.row(0, width, 1), -2);
        }
        CHECK.due("WIDTH 0", bench.row(0, 0, 1), 0);
        CHECK.due("WIDTH 3", bench.row(0, 3, 1), 0);
        CHECK.promise(2, "-2: [..] or n is above 60");
        CHECK.due("60 numbers", bench.row(0, 3, LONGEST), 0);
        CHECK.due("61 numbers", bench.row(0, 3, LONGEST + 1), -2);
        CHECK.due("most numbers", bench.row(0, 3, Integer.MAX_VALUE), -2);
        CHECK.promise(2, "-3: n is below 0");
        CHECK.due("0 numbers", bench.row(0, 3, 0), 0);
        CHECK.due("-1 numbers", bench.row(0, 3, -1), -3);
        CHECK.due("fewest numbers", bench.row(0, 3, Integer.MIN_VALUE), -3);
        CHECK.due("count(3)", bench.count(3), 2);
    }

    private static void tornRow() {
        CHECK.promise(3, "The SLOT has nothing: true");
        DrawBench bench = new DrawBench();
        for (int slot = 0; slot <= LAST_SLOT; slot++) {
            Check.lay(bench, slot, 3, 1, 9, 7, 3, 100);
        }
        for (int slot = 0; slot <= LAST_SLOT; slot++) {
            CHECK.due("crowd " + slot + " ahead of it", bench.crowd(slot), 1);
            CHECK.due("tear " + slot, bench.tear(slot), true);
            CHECK.due("count(3)", bench.count(3), LAST_SLOT - slot);
            CHECK.due("write " + slot, bench.write(slot, 0, 1), -5);
            CHECK.due("crowd " + slot, bench.crowd(slot), -5);
        }
        bench.row(0, 0, 0);
        CHECK.due("tear of a ROW of none", bench.tear(0), true);
        CHECK.due("row again", bench.row(0, 0, 1), 0);
        CHECK.due("tear again", bench.tear(0), true);
    }

    private static void tearRefused() {
        CHECK.promise(3, "false, if it had nothing");
        DrawBench bench = new DrawBench();
        bench.row(1, 0, 1);
        CHECK.due("tear(0)", bench.tear(0), false);
        CHECK.due("tear(2)", bench.tear(2), false);
        CHECK.due("tear(1)", bench.tear(1), true);
        CHECK.due("tear(1) again", bench.tear(1), false);
        CHECK.promise(3, "false, [..] or there is none such");
        bench.row(0, 0, 1);
        bench.row(LAST_SLOT, 0, 1);
        for (int slot : Check.outside(0, LAST_SLOT)) {
            CHECK.due("tear " + slot, bench.tear(slot), false);
        }
        CHECK.due("count(3)", bench.count(3), 2);
    }

    /** Each number is told apart from all others by the CROWD. */
    private static void writeEachNumber() {
        CHECK.promise(4, "Number i of the SLOT's ROW is v");
        int[] facts = new int[40];
        for (int i = 0; i < 10; i++) {
            facts[4 * i] = 7 * i - 30;
            facts[4 * i + 1] = 1 + i;
            facts[4 * i + 2] = i % 4;
            facts[4 * i + 3] = 10 * i + 5;
        }
        int[] namesOfHeap = {3, 3, 2, 2};
        for (int width = 0; width < 4; width++) {
            DrawBench bench = new DrawBench();
            Check.lay(bench, LAST_SLOT, width, Check.rowOf(facts));
            CHECK.due("crowd", bench.crowd(LAST_SLOT), 10);
            for (int i = 0; i < 10; i++) {
                bench.draw(0, 10);
                bench.sum(1 << i);
                CHECK.result("WORTH " + i, bench, facts[4 * i] + "/1");
                bench.draw(4, 1);
                bench.chance(i);
                CHECK.result("SIZE " + i, bench, Ratio.of(1 + i, 55));
                bench.draw(3, 0);
                bench.chance(i);
                CHECK.result("SHARE " + i, bench, Ratio.of(10 * i + 5, 100));
            }
            for (int heap = 0; heap < 4; heap++) {
                CHECK.due("HEAP " + heap, bench.count(10 + heap), namesOfHeap[heap]);
            }
        }
    }

    private static void writeTouchesNoOther() {
        CHECK.promise(4, "Number i of the SLOT's ROW is v [..]: 0");
        DrawBench bench = new DrawBench();
        Check.lay(bench, 3, 0, 1, 1, 2, 3, 4);
        Check.lay(bench, 5, 0, 1, 5, 6, 1, 8);
        bench.row(4, 3, LONGEST);
        for (int i = 0; i < LONGEST; i++) {
            CHECK.due("write " + i, bench.write(4, i, Long.MIN_VALUE), 0);
        }
        CHECK.due("the SLOT ahead", bench.crowd(3), 1);
        CHECK.due("its HEAP", bench.count(13), 1);
        CHECK.due("the SLOT behind", bench.crowd(5), 1);
        CHECK.due("its HEAP", bench.count(11), 1);
        bench.mean();
        CHECK.result("its WORTH", bench, "5/1");
    }

    private static void writeCutsToWidth() {
        CHECK.promise(4, "Number i of the SLOT's ROW is v, cut to its WIDTH");
        for (int width = 0; width < 3; width++) {
            long all = 1L << (8 << width);
            worthIs(width, all + 100, 100);
            worthIs(width, all - 100, -100);
            worthIs(width, -all + 100, 100);
            worthIs(width, -all - 100, -100);
            worthIs(width, 3 * all, 0);
            worthIsNone(width, all + 101);
            worthIsNone(width, all - 101);
            DrawBench bench = new DrawBench();
            Check.lay(bench, 0, width, all + 1, all, all + 1, all + 3, all + 100);
            CHECK.due("NAMES, SIZE, HEAP and SHARE of WIDTH " + width, bench.crowd(0), 1);
            CHECK.due("the HEAP", bench.count(13), 1);
        }
        // what the next narrower WIDTH would cut off is kept
        for (int width = 1; width < 4; width++) {
            worthIsNone(width, (1L << (4 << width)) + 5);
            worthIsNone(width, (1L << (4 << width)) - 5);
        }
    }

    private static void writeAtTheEndsOfWidths() {
        CHECK.terms("numbers of 1, 2, 4 or 8 bytes (WIDTH 0 to 3)");
        for (int width = 0; width < 4; width++) {
            long highest = width == 3 ? Long.MAX_VALUE : (1L << ((8 << width) - 1)) - 1;
            worthIsNone(width, highest);
            worthIsNone(width, -highest - 1);
            worthIsNone(width, highest + 1);
            worthIsNone(width, -highest - 2);
            worthIs(width, 100, 100);
            worthIs(width, -100, -100);
            worthIs(width, -1, -1);
        }
        for (int width = 0; width < 3; width++) {
            worthIs(width, Long.MIN_VALUE, 0);
            worthIs(width, Long.MAX_VALUE, -1);
        }
    }

    private static DrawBench worthRow(int width, long v) {
        DrawBench bench = new DrawBench();
        Check.lay(bench, 5, width, 1, v, 1, 0, 0);
        return bench;
    }

    private static void worthIs(int width, long v, int want) {
        DrawBench bench = worthRow(width, v);
        CHECK.due("crowd of " + v + " by WIDTH " + width, bench.crowd(5), 1);
        bench.mean();
        CHECK.result("mean of " + v + " by WIDTH " + width, bench, want + "/1");
    }

    private static void worthIsNone(int width, long v) {
        CHECK.due("crowd of " + v + " by WIDTH " + width, worthRow(width, v).crowd(5), -4);
    }

    private static void writeRefused() {
        CHECK.promise(4, "-2: there is no such SLOT");
        DrawBench bench = new DrawBench();
        bench.row(0, 0, 1);
        bench.row(LAST_SLOT, 0, LONGEST);
        for (int slot : Check.outside(0, LAST_SLOT)) {
            CHECK.due("write to SLOT " + slot, bench.write(slot, 0, 0), -2);
        }
        CHECK.due("write to SLOT 0", bench.write(0, 0, 0), 0);
        CHECK.due("write to SLOT 7", bench.write(LAST_SLOT, 0, 0), 0);
        CHECK.promise(4, "-5: it has nothing");
        CHECK.due("write to SLOT 1", bench.write(1, 0, 0), -5);
        CHECK.due("write to SLOT 6", bench.write(6, 0, 0), -5);
        CHECK.promise(4, "-6: there is no such number");
        for (int i : Check.outside(0, 0)) {
            CHECK.due("number " + i + " of 1", bench.write(0, i, 0), -6);
        }
        for (int i : Check.outside(0, LONGEST - 1)) {
            CHECK.due("number " + i + " of 60", bench.write(LAST_SLOT, i, 0), -6);
        }
        CHECK.due("number 59 of 60", bench.write(LAST_SLOT, LONGEST - 1, 0), 0);
        bench.row(1, 0, 0);
        CHECK.due("number 0 of none", bench.write(1, 0, 0), -6);
        CHECK.due("number -1 of none", bench.write(1, -1, 0), -6);
    }
}
