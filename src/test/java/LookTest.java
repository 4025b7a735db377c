/** Promises 21 to 23: look, part, count. */
public final class LookTest {
    private static final Check CHECK = new Check();

    public static void main(String[] args) {
        signs();
        parts();
        partsWithZeroInside();
        count();
        CHECK.end("LookTest");
    }

    private static void signs() {
        DrawBench bench = Check.benchOf(-7, 1, 0, 0, 7, 1, 0, 0);
        bench.sum(1);
        CHECK.due("below 0", bench.look(0), -1);
        CHECK.due("the top is without sign", bench.part(false, 0), 14);
        CHECK.due("one part", bench.look(1), 1);
        bench.sum(2);
        CHECK.due("above 0", bench.look(0), 1);
        CHECK.due("the top", bench.part(false, 0), 14);
        bench.sum(3);
        CHECK.due("0", bench.look(0), 0);
        CHECK.due("one part of 0", bench.look(1), 1);
        CHECK.due("the top", bench.part(false, 0), 0);
        CHECK.due("the bottom", bench.part(true, 0), 1);
        int[] strange = {-1, 3, Integer.MIN_VALUE, Integer.MAX_VALUE};
        for (int what : strange) {
            CHECK.due("look " + what, bench.look(what), DrawBench.NONE);
        }
    }

    /** 99 to the fifth by 100 to the fifth, and 1 by it. */
    private static void parts() {
        DrawBench bench = Check.benchOf(
            0, 1, 0, 99, 0, 1, 0, 99, 0, 1, 0, 99, 0, 1, 0, 99, 0, 1, 0, 99);
        bench.draw(3, 0);
        bench.set(31);
        CHECK.due("parts of the top", bench.look(1), 2);
        CHECK.due("parts of the bottom", bench.look(2), 2);
        CHECK.due("top 0", bench.part(false, 0), 509900499);
        CHECK.due("top 1", bench.part(false, 1), 9);
        CHECK.due("bottom 0", bench.part(true, 0), 0);
        CHECK.due("bottom 1", bench.part(true, 1), 10);
        int[] strange = {-1, 2, 19, 20, 21, Integer.MIN_VALUE, Integer.MAX_VALUE};
        for (int i : strange) {
            CHECK.due("top " + i, bench.part(false, i), 0);
            CHECK.due("bottom " + i, bench.part(true, i), 0);
        }
        bench.set(0);
        CHECK.due("parts of a top of 1", bench.look(1), 1);
        CHECK.due("the top before is gone", bench.part(false, 1), 0);
        CHECK.due("parts of the bottom", bench.look(2), 2);
    }

    /** A bottom of 10 to the eighteenth has two parts of 0 below its 1. */
    private static void partsWithZeroInside() {
        int[] facts = new int[36];
        for (int i = 0; i < 9; i++) {
            facts[4 * i + 1] = 1;
            facts[4 * i + 3] = 1;
        }
        DrawBench bench = Check.benchOf(facts);
        bench.draw(3, 0);
        bench.set(511);
        CHECK.due("parts", bench.look(2), 3);
        CHECK.due("lowest", bench.part(true, 0), 0);
        CHECK.due("middle", bench.part(true, 1), 0);
        CHECK.due("highest", bench.part(true, 2), 1);
        CHECK.result("set", bench, "1/1000000000000000000");
    }

    private static void count() {
        DrawBench bench = Check.benchOf(0, 1, 0, 0, 0, 1, 2, 0, 0, 1, 2, 0, 0, 1, 3, 0);
        bench.row(0, 0, 0);
        bench.row(4, 0, 9);
        bench.drawn(2, 2);
        bench.drawn(3, 1);
        int[] names = {1, 0, 2, 1};
        int[] drawn = {0, 0, 2, 1};
        for (int h = 0; h < 4; h++) {
            CHECK.due("names of heap " + h, bench.count(10 + h), names[h]);
            CHECK.due("drawn of heap " + h, bench.count(20 + h), drawn[h]);
        }
        CHECK.due("names", bench.count(0), 4);
        CHECK.due("slots", bench.count(3), 2);
        bench.draw(0, 3);
        CHECK.due("n of ALIKE", bench.count(2), 3);
        bench.draw(1, 1);
        CHECK.due("kind", bench.count(1), 1);
        CHECK.due("all drawn", bench.count(2), 3);
        bench.draw(2, 2);
        CHECK.due("n of STEPS", bench.count(2), 2);
        bench.draw(3, 4);
        CHECK.due("n of OWN", bench.count(2), 0);
        bench.draw(4, 4);
        CHECK.due("n of WEIGHED", bench.count(2), 4);
        int[] strange = {-1, 4, 9, 14, 19, 24, 30, Integer.MIN_VALUE, Integer.MAX_VALUE};
        for (int what : strange) {
            CHECK.due("count " + what, bench.count(what), -1);
        }
    }
}
