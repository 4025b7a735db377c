/** Promises 8 to 12: chance, both, set, sets, many, for each kind of DRAW. */
public final class ChanceTest {
    private static final Check CHECK = new Check();

    public static void main(String[] args) {
        alike();
        heaps();
        steps();
        own();
        ownInLargeCrowd();
        weighed();
        refused();
        CHECK.end("ChanceTest");
    }

    private static DrawBench four() {
        return Check.benchOf(10, 1, 0, 20, -20, 2, 0, 0, 30, 3, 1, 100, 5, 4, 1, 75);
    }

    private static void chances(String draw, DrawBench bench, String... want) {
        for (int i = 0; i < want.length; i++) {
            CHECK.due(draw + " chance", bench.chance(i), true);
            CHECK.result(draw + " chance " + i, bench, want[i]);
            CHECK.due(draw + " both", bench.both(i, i), true);
            CHECK.result(draw + " both " + i + " " + i, bench, want[i]);
        }
    }

    private static void pair(String draw, DrawBench bench, int i, int j, String want) {
        CHECK.due(draw + " both", bench.both(i, j), true);
        CHECK.result(draw + " both " + i + " " + j, bench, want);
        CHECK.due(draw + " both", bench.both(j, i), true);
        CHECK.result(draw + " both " + j + " " + i, bench, want);
    }

    private static void setIs(String draw, DrawBench bench, int set, String want) {
        CHECK.due(draw + " set", bench.set(set), true);
        CHECK.result(draw + " set " + set, bench, want);
    }

    private static void manyIs(String draw, DrawBench bench, String want) {
        bench.many();
        CHECK.result(draw + " many", bench, want);
    }

    private static void alike() {
        DrawBench bench = four();
        bench.draw(0, 3);
        chances("ALIKE", bench, "3/4", "3/4", "3/4", "3/4");
        pair("ALIKE", bench, 0, 3, "1/2");
        setIs("ALIKE", bench, 7, "1/4");
        setIs("ALIKE", bench, 3, "0/1");
        setIs("ALIKE", bench, 15, "0/1");
        CHECK.due("sets", bench.sets(), 4);
        manyIs("ALIKE", bench, "3/1");
        bench.draw(0, 0);
        chances("ALIKE 0", bench, "0/1", "0/1", "0/1", "0/1");
        setIs("ALIKE 0", bench, 0, "1/1");
        CHECK.due("sets", bench.sets(), 1);
        manyIs("ALIKE 0", bench, "0/1");
    }

    private static void heaps() {
        DrawBench bench = four();
        bench.drawn(0, 1);
        bench.drawn(1, 2);
        bench.draw(1, 0);
        chances("HEAPS", bench, "1/2", "1/2", "1/1", "1/1");
        pair("HEAPS", bench, 0, 1, "0/1");
        pair("HEAPS", bench, 1, 2, "1/2");
        pair("HEAPS", bench, 2, 3, "1/1");
        setIs("HEAPS", bench, 13, "1/2");
        setIs("HEAPS", bench, 7, "0/1");
        CHECK.due("sets", bench.sets(), 2);
        manyIs("HEAPS", bench, "3/1");
        bench.drawn(1, 1);
        pair("HEAPS", bench, 0, 3, "1/4");
        CHECK.due("sets", bench.sets(), 4);
    }

    /** Two steps of 10 over 0 0 1 1 1 1 2 2 2 2 | 2 2 3 3 3 3 3 3 3 3. */
    private static void steps() {
        DrawBench bench = four();
        bench.draw(2, 2);
        chances("STEPS", bench, "1/5", "2/5", "3/5", "4/5");
        pair("STEPS", bench, 0, 1, "0/1");
        pair("STEPS", bench, 0, 2, "1/5");
        pair("STEPS", bench, 0, 3, "0/1");
        pair("STEPS", bench, 1, 3, "2/5");
        pair("STEPS", bench, 2, 3, "2/5");
        setIs("STEPS", bench, 5, "1/5");
        setIs("STEPS", bench, 10, "2/5");
        setIs("STEPS", bench, 12, "2/5");
        setIs("STEPS", bench, 6, "0/1");
        CHECK.due("sets", bench.sets(), 3);
        manyIs("STEPS", bench, "2/1");
    }

    private static void own() {
        DrawBench bench = four();
        bench.draw(3, 0);
        chances("OWN", bench, "1/5", "0/1", "1/1", "3/4");
        pair("OWN", bench, 0, 3, "3/20");
        pair("OWN", bench, 0, 2, "1/5");
        pair("OWN", bench, 1, 2, "0/1");
        setIs("OWN", bench, 4, "1/5");
        setIs("OWN", bench, 5, "1/20");
        setIs("OWN", bench, 12, "3/5");
        setIs("OWN", bench, 13, "3/20");
        setIs("OWN", bench, 0, "0/1");
        setIs("OWN", bench, 15, "0/1");
        CHECK.due("sets", bench.sets(), 4);
        manyIs("OWN", bench, "39/20");
    }

    private static void ownInLargeCrowd() {
        int[] facts = new int[40];
        for (int i = 0; i < 10; i++) {
            facts[4 * i + 1] = 1;
            facts[4 * i + 3] = i < 5 ? 99 : 1;
        }
        DrawBench bench = Check.benchOf(facts);
        bench.draw(3, 0);
        CHECK.due("sets", bench.sets(), 1024);
        setIs("OWN", bench, 31, "90438207500880449001/100000000000000000000");
        CHECK.due("parts of the top", bench.look(1), 3);
        CHECK.due("parts of the bottom", bench.look(2), 3);
        setIs("OWN", bench, 992, "1/100000000000000000000");
        manyIs("OWN", bench, "5/1");
    }

    private static void weighed() {
        DrawBench bench = four();
        bench.draw(4, 2);
        // the products: 2, 3, 4, 6, 8, 12, together 35
        chances("WEIGHED", bench, "9/35", "16/35", "3/5", "24/35");
        pair("WEIGHED", bench, 0, 1, "2/35");
        pair("WEIGHED", bench, 2, 3, "12/35");
        setIs("WEIGHED", bench, 10, "8/35");
        setIs("WEIGHED", bench, 14, "0/1");
        CHECK.due("sets", bench.sets(), 6);
        manyIs("WEIGHED", bench, "2/1");
        bench.draw(4, 4);
        setIs("WEIGHED", bench, 15, "1/1");
        CHECK.due("sets", bench.sets(), 1);
        bench.draw(4, 0);
        setIs("WEIGHED", bench, 0, "1/1");
        chances("WEIGHED 0", bench, "0/1", "0/1", "0/1", "0/1");
    }

    private static void refused() {
        DrawBench bench = four();
        bench.draw(0, 3);
        bench.chance(0);
        int[] strange = {-1, 4, 31, 32, Integer.MIN_VALUE, Integer.MAX_VALUE};
        for (int i : strange) {
            CHECK.due("chance " + i, bench.chance(i), false);
            CHECK.due("both " + i, bench.both(i, 0), false);
            CHECK.due("both 0 " + i, bench.both(0, i), false);
            CHECK.due("both " + i + " itself", bench.both(i, i), false);
        }
        CHECK.due("set(-1)", bench.set(-1), false);
        CHECK.due("set(16)", bench.set(16), false);
        CHECK.due("set(min)", bench.set(Integer.MIN_VALUE), false);
        CHECK.due("set(max)", bench.set(Integer.MAX_VALUE), false);
        CHECK.result("nothing changed", bench, "3/4");
        bench.sets();
        CHECK.result("sets changes nothing", bench, "3/4");
    }
}
