/** Promises 8 to 12, and what "Terms" says of each kind of DRAW. */
public final class ChanceTest {
    private static final int MOST_NAMES = 10;
    private static final Check CHECK = new Check();

    public static void main(String[] args) {
        exact();
        setsByBits();
        allSetsTogether();
        allNamesAndPairs();
        alike();
        heaps();
        steps();
        stepsAtTheEnds();
        own();
        weighed();
        chanceOfNames();
        bothOfPairs();
        justThatSet();
        fewestAndMostSets();
        fewestAndMostDrawn();
        CHECK.end("ChanceTest");
    }

    private static DrawBench four() {
        return Check.benchOf(10, 1, 0, 20, -20, 2, 0, 0, 30, 3, 1, 100, 5, 4, 1, 75);
    }

    /** Ten NAMES of SIZES 1 to 10, in turn of each HEAP, and of SHARES 1 to 91. */
    private static DrawBench ten() {
        int[] facts = new int[4 * MOST_NAMES];
        for (int i = 0; i < MOST_NAMES; i++) {
            facts[4 * i + 1] = i + 1;
            facts[4 * i + 2] = i % 4;
            facts[4 * i + 3] = 10 * i + 1;
        }
        return Check.benchOf(facts);
    }

    private static void chancesAre(DrawBench bench, String... want) {
        for (int i = 0; i < want.length; i++) {
            CHECK.due("chance " + i, bench.chance(i), true);
            CHECK.result("chance " + i, bench, want[i]);
        }
    }

    private static void bothIs(DrawBench bench, int i, int j, String want) {
        CHECK.due("both " + i + " " + j, bench.both(i, j), true);
        CHECK.result("both " + i + " " + j, bench, want);
        CHECK.due("both " + j + " " + i, bench.both(j, i), true);
        CHECK.result("both " + j + " " + i, bench, want);
    }

    private static void setIs(DrawBench bench, int set, String want) {
        CHECK.due("set " + set, bench.set(set), true);
        CHECK.result("set " + set, bench, want);
    }

    private static void manyIs(DrawBench bench, String want) {
        bench.many();
        CHECK.result("many", bench, want);
    }

    private static void exact() {
        CHECK.terms("All chances are exact fractions.");
        DrawBench bench = Check.benchOf(Check.alike(MOST_NAMES, 0, 50, 0, 1));
        bench.draw(3, 0);
        setIs(bench, 1023, "1/100000000000000000000");
        setIs(bench, 0, "90438207500880449001/100000000000000000000");
        bench.draw(4, 9);
        setIs(bench, 511, "1/10");
        bench.draw(0, 5);
        setIs(bench, 31, "1/252");
        bothIs(bench, 0, 9, "2/9");
        DrawBench large = Check.benchOf(
            0, 50, 0, 0, 0, 49, 0, 0, 0, 47, 0, 0, 0, 43, 0, 0, 0, 41, 0, 0,
            0, 37, 0, 0, 0, 31, 0, 0, 0, 29, 0, 0, 0, 23, 0, 0, 0, 39, 0, 0);
        large.draw(4, 9);
        setIs(large, 511, "155312176713050/1648871753284229");
    }

    private static void setsByBits() {
        CHECK.terms("Sets of NAMES are told as numbers: bit i: NAME i.");
        for (int i = 0; i < MOST_NAMES; i++) {
            int[] facts = Check.alike(MOST_NAMES, 0, 1, 0, 0);
            facts[4 * i + 3] = 100;
            DrawBench bench = Check.benchOf(facts);
            bench.draw(3, 0);
            CHECK.due("sets", bench.sets(), 1);
            for (int j = 0; j < MOST_NAMES; j++) {
                setIs(bench, 1 << j, i == j ? "1/1" : "0/1");
            }
        }
    }

    private static Oracle oracleOfFour() {
        Oracle oracle = new Oracle(10, 1, 0, 20, -20, 2, 0, 0, 30, 3, 1, 100, 5, 4, 1, 75);
        oracle.drawn[0] = 1;
        oracle.drawn[1] = 1;
        return oracle;
    }

    private static DrawBench fourDrawn(int kind) {
        DrawBench bench = four();
        bench.drawn(0, 1);
        bench.drawn(1, 1);
        bench.draw(kind, 2);
        return bench;
    }

    private static void allSetsTogether() {
        CHECK.terms("A DRAW tells with which chance each set is drawn");
        for (int kind = 0; kind < 5; kind++) {
            DrawBench bench = fourDrawn(kind);
            Ratio[] chance = oracleOfFour().chances(kind, 2);
            for (int set = 0; set < chance.length; set++) {
                setIs(bench, set, chance[set].toString());
            }
        }
    }

    private static void allNamesAndPairs() {
        CHECK.terms("CHANCE of a NAME is that of being drawn, of a pair that of both being drawn.");
        for (int kind = 0; kind < 5; kind++) {
            DrawBench bench = fourDrawn(kind);
            Oracle oracle = oracleOfFour();
            Ratio[] chance = oracle.chances(kind, 2);
            for (int i = 0; i < oracle.names; i++) {
                CHECK.due("chance " + i, bench.chance(i), true);
                CHECK.result("chance " + i + " of kind " + kind, bench, oracle.both(chance, i, i));
                for (int j = 0; j < i; j++) {
                    bothIs(bench, i, j, oracle.both(chance, i, j).toString());
                }
            }
        }
    }

    private static void alike() {
        CHECK.terms("ALIKE (kind 0), n: each set of n NAMES with the same chance.");
        DrawBench bench = four();
        bench.draw(0, 3);
        chancesAre(bench, "3/4", "3/4", "3/4", "3/4");
        bothIs(bench, 0, 3, "1/2");
        for (int set = 0; set < 16; set++) {
            setIs(bench, set, Integer.bitCount(set) == 3 ? "1/4" : "0/1");
        }
        manyIs(bench, "3/1");
        bench.draw(0, 0);
        chancesAre(bench, "0/1", "0/1", "0/1", "0/1");
        setIs(bench, 0, "1/1");
        setIs(bench, 1, "0/1");
        bench.draw(0, 4);
        chancesAre(bench, "1/1", "1/1", "1/1", "1/1");
        setIs(bench, 15, "1/1");
        setIs(bench, 7, "0/1");
    }

    private static void heaps() {
        CHECK.terms("HEAPS (1): from each HEAP as many as are its DRAWN, each set of so many of its NAMES "
            + "with the same chance, apart from the other HEAPS.");
        DrawBench bench = four();
        bench.drawn(0, 1);
        bench.drawn(1, 2);
        bench.draw(1, 0);
        chancesAre(bench, "1/2", "1/2", "1/1", "1/1");
        bothIs(bench, 0, 1, "0/1");
        bothIs(bench, 1, 2, "1/2");
        bothIs(bench, 2, 3, "1/1");
        setIs(bench, 13, "1/2");
        setIs(bench, 7, "0/1");
        manyIs(bench, "3/1");
        bench.drawn(1, 1);
        bothIs(bench, 0, 3, "1/4");
        setIs(bench, 5, "1/4");
        bench.drawn(0, 0);
        bench.drawn(1, 0);
        setIs(bench, 0, "1/1");
        bench.drawn(0, 2);
        bench.drawn(1, 2);
        setIs(bench, 15, "1/1");
        setIs(bench, 14, "0/1");
    }

    /** Two steps of 10 over 0 0 1 1 1 1 2 2 2 2 | 2 2 3 3 3 3 3 3 3 3: NAME 2 stands over the turn. */
    private static void steps() {
        CHECK.terms("STEPS (2), n: T is the sum of all SIZES; the NAMES stand on a row of n * T places, "
            + "n times its SIZE each, one behind the other by numbers");
        DrawBench bench = four();
        bench.draw(2, 2);
        chancesAre(bench, "1/5", "2/5", "3/5", "4/5");
        bothIs(bench, 0, 1, "0/1");
        bothIs(bench, 0, 2, "1/5");
        bothIs(bench, 0, 3, "0/1");
        bothIs(bench, 1, 3, "2/5");
        bothIs(bench, 2, 3, "2/5");
        setIs(bench, 5, "1/5");
        setIs(bench, 10, "2/5");
        setIs(bench, 12, "2/5");
        setIs(bench, 6, "0/1");
        CHECK.due("sets", bench.sets(), 3);
        manyIs(bench, "2/1");
    }

    private static void stepsAtTheEnds() {
        CHECK.terms("of the places 0 to T - 1 each is the beginning with the same chance");
        // NAMES of SIZE 1 at both ends of the row: place 0 alone draws the one, T - 1 the other
        DrawBench ends = Check.benchOf(0, 1, 0, 0, 0, 50, 0, 0, 0, 1, 0, 0);
        ends.draw(2, 1);
        chancesAre(ends, "1/52", "25/26", "1/52");
        DrawBench one = new DrawBench();
        one.draw(2, 1);
        chancesAre(one, "1/1");
        CHECK.terms("drawn are the NAMES that stand at it and at each T-th place from there on");
        // 0 0 0 1 1 1 | 2 2 2 3 3 3 | 4 4 4 5 5 5, each of SIZE 1: just two sets
        DrawBench six = Check.benchOf(Check.alike(6, 0, 1, 0, 0));
        six.draw(2, 3);
        setIs(six, 0b010101, "1/2");
        setIs(six, 0b101010, "1/2");
        CHECK.due("sets", six.sets(), 2);
        // a NAME whose stretch is a whole turn is drawn from each beginning, once
        DrawBench turn = Check.benchOf(0, 1, 0, 0, 0, 3, 0, 0, 0, 2, 0, 0);
        turn.draw(2, 2);
        chancesAre(turn, "1/3", "1/1", "2/3");
        setIs(turn, 0b011, "1/3");
        setIs(turn, 0b110, "2/3");
        DrawBench large = Check.benchOf(Check.alike(MOST_NAMES, 0, 50, 0, 0));
        large.draw(2, MOST_NAMES);
        setIs(large, 1023, "1/1");
        large.draw(2, 9);
        CHECK.due("sets of 9 of 10", large.sets(), 10);
        setIs(large, 1022, "1/10");
        setIs(large, 511, "1/10");
    }

    private static void own() {
        CHECK.terms("OWN (3): each NAME with a chance of its SHARE by 100, apart from the others.");
        DrawBench bench = four();
        bench.draw(3, 0);
        chancesAre(bench, "1/5", "0/1", "1/1", "3/4");
        bothIs(bench, 0, 3, "3/20");
        bothIs(bench, 0, 2, "1/5");
        bothIs(bench, 1, 2, "0/1");
        setIs(bench, 4, "1/5");
        setIs(bench, 5, "1/20");
        setIs(bench, 12, "3/5");
        setIs(bench, 13, "3/20");
        setIs(bench, 0, "0/1");
        setIs(bench, 15, "0/1");
        manyIs(bench, "39/20");
        DrawBench none = Check.benchOf(Check.alike(MOST_NAMES, 1, 1, 0, 0));
        none.draw(3, 0);
        setIs(none, 0, "1/1");
        setIs(none, 1, "0/1");
        DrawBench all = Check.benchOf(Check.alike(MOST_NAMES, 1, 1, 0, 100));
        all.draw(3, 0);
        setIs(all, 1023, "1/1");
        setIs(all, 1022, "0/1");
    }

    private static void weighed() {
        CHECK.terms("WEIGHED (4), n: each set of n NAMES with a chance that is to the others' as the "
            + "product of the SIZES of its NAMES.");
        DrawBench bench = four();
        bench.draw(4, 2);
        // the products: 2, 3, 4, 6, 8, 12, together 35
        chancesAre(bench, "9/35", "16/35", "3/5", "24/35");
        bothIs(bench, 0, 1, "2/35");
        bothIs(bench, 2, 3, "12/35");
        setIs(bench, 10, "8/35");
        setIs(bench, 14, "0/1");
        setIs(bench, 8, "0/1");
        CHECK.due("sets", bench.sets(), 6);
        manyIs(bench, "2/1");
        bench.draw(4, 4);
        setIs(bench, 15, "1/1");
        chancesAre(bench, "1/1", "1/1", "1/1", "1/1");
        bench.draw(4, 0);
        setIs(bench, 0, "1/1");
        chancesAre(bench, "0/1", "0/1", "0/1", "0/1");
    }

    private static void chanceOfNames() {
        CHECK.promise(8, "The RESULT is the CHANCE of a NAME: true");
        DrawBench bench = ten();
        bench.draw(4, 1);
        CHECK.due("the first", bench.chance(0), true);
        CHECK.result("the first", bench, "1/55");
        CHECK.due("the last", bench.chance(9), true);
        CHECK.result("the last", bench, "2/11");
        CHECK.promise(8, "false if there is none such");
        for (int i : Check.outside(0, 9)) {
            CHECK.due("chance of NAME " + i, bench.chance(i), false);
        }
        CHECK.due("chance of NAME 32", bench.chance(32), false);
        CHECK.result("chance(9)", bench, "2/11");
        DrawBench one = new DrawBench();
        CHECK.due("of one NAME", one.chance(0), true);
        for (int i : Check.outside(0, 0)) {
            CHECK.due("chance of NAME " + i + " of one", one.chance(i), false);
        }
        CHECK.result("chance(0)", one, "1/1");
    }

    private static void bothOfPairs() {
        CHECK.promise(9, "The RESULT is the CHANCE of a pair");
        DrawBench bench = ten();
        bench.draw(0, 2);
        bothIs(bench, 0, 9, "1/45");
        bothIs(bench, 8, 9, "1/45");
        bench.draw(0, 1);
        bothIs(bench, 0, 9, "0/1");
        CHECK.promise(9, "(of NAME i with itself that of i): true");
        for (int kind = 0; kind < 5; kind++) {
            DrawBench itself = ten();
            itself.drawn(0, 2);
            itself.drawn(1, 1);
            itself.draw(kind, 2);
            for (int i = 0; i < MOST_NAMES; i++) {
                itself.chance(i);
                String chance = Check.resultOf(itself);
                CHECK.due("both " + i + " " + i, itself.both(i, i), true);
                CHECK.result("both " + i + " " + i, itself, chance);
            }
        }
        CHECK.promise(9, "false if there is none such");
        bench.both(0, 0);
        for (int i : Check.outside(0, 9)) {
            CHECK.due("both " + i + " and 0", bench.both(i, 0), false);
            CHECK.due("both 9 and " + i, bench.both(9, i), false);
            CHECK.due("both " + i + " and itself", bench.both(i, i), false);
        }
        CHECK.result("both(0, 0)", bench, "1/10");
    }

    private static void justThatSet() {
        CHECK.promise(10, "The RESULT is the chance of just that set: true");
        DrawBench bench = ten();
        bench.draw(0, 9);
        setIs(bench, 0, "0/1");
        setIs(bench, 255, "0/1");
        setIs(bench, 511, "1/10");
        setIs(bench, 1022, "1/10");
        setIs(bench, 1023, "0/1");
        CHECK.promise(10, "false if there is no such set");
        bench.set(511);
        for (int set : Check.outside(0, 1023)) {
            CHECK.due("set " + set, bench.set(set), false);
        }
        CHECK.result("set(511)", bench, "1/10");
        DrawBench one = new DrawBench();
        setIs(one, 0, "0/1");
        setIs(one, 1, "1/1");
        for (int set : Check.outside(0, 1)) {
            CHECK.due("set " + set + " of one NAME", one.set(set), false);
        }
        CHECK.result("set(1)", one, "1/1");
    }

    private static void fewestAndMostSets() {
        CHECK.promise(11, "How many sets have a chance above 0.");
        DrawBench bench = ten();
        int[] choices = {1, 10, 45, 120, 210, 252, 210, 120, 45, 10, 1};
        for (int n = 0; n <= MOST_NAMES; n++) {
            bench.draw(0, n);
            CHECK.due("sets of ALIKE " + n, bench.sets(), choices[n]);
            bench.draw(4, n);
            CHECK.due("sets of WEIGHED " + n, bench.sets(), choices[n]);
        }
        bench.draw(1, 0);
        CHECK.due("sets of no DRAWN", bench.sets(), 1);
        bench.drawn(0, 2);
        bench.drawn(3, 1);
        CHECK.due("sets of HEAPS, 2 of 3 and 1 of 2", bench.sets(), 6);
        bench.draw(3, 0);
        CHECK.due("sets of OWN, none sure", bench.sets(), 1024);
        for (int share : new int[] {0, 1, 99, 100}) {
            int[] facts = Check.alike(MOST_NAMES, 0, 1, 0, share);
            DrawBench own = Check.benchOf(facts);
            own.draw(3, 0);
            CHECK.due("sets of SHARES of " + share, own.sets(), share % 100 == 0 ? 1 : 1024);
        }
    }

    private static void fewestAndMostDrawn() {
        CHECK.promise(12, "The RESULT is the mean of how many are drawn.");
        DrawBench bench = ten();
        for (int n = 0; n <= MOST_NAMES; n++) {
            bench.draw(0, n);
            manyIs(bench, n + "/1");
            bench.draw(4, n);
            manyIs(bench, n + "/1");
        }
        bench.draw(1, 0);
        manyIs(bench, "0/1");
        bench.draw(3, 0);
        manyIs(bench, "23/5");
        DrawBench surely = Check.benchOf(Check.alike(MOST_NAMES, 0, 1, 0, 100));
        surely.draw(3, 0);
        manyIs(surely, "10/1");
        DrawBench hardly = Check.benchOf(Check.alike(1, 0, 1, 0, 1));
        hardly.draw(3, 0);
        manyIs(hardly, "1/100");
    }
}
