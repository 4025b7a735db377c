import java.math.BigInteger;

/** Counts and prints every answer that is not the one that is due. */
final class Check {
    private static final BigInteger BASE = BigInteger.valueOf(1_000_000_000L);
    private int wrong;
    private int made;

    void due(String call, long got, long want) {
        made++;
        if (got != want) {
            wrong++;
            System.out.println(call + " answered " + got + ", due is " + want);
        }
    }

    void due(String call, boolean got, boolean want) {
        due(call, got ? 1 : 0, want ? 1 : 0);
    }

    /** The RESULT, told as "top/bottom" in lowest terms. */
    void result(String call, DrawBench bench, String want) {
        made++;
        String got = resultOf(bench);
        if (!got.equals(want)) {
            wrong++;
            System.out.println("the RESULT of " + call + " is " + got + ", due is " + want);
        }
    }

    void result(String call, DrawBench bench, Ratio want) {
        result(call, bench, want.toString());
    }

    static String resultOf(DrawBench bench) {
        BigInteger top = read(bench, false, bench.look(1));
        BigInteger bottom = read(bench, true, bench.look(2));
        if (bench.look(0) != 1 && bench.look(0) != top.negate().signum()) {
            return "a top of " + top + " with the sign " + bench.look(0);
        }
        return (bench.look(0) < 0 ? top.negate() : top) + "/" + bottom;
    }

    private static BigInteger read(DrawBench bench, boolean bottom, int parts) {
        BigInteger all = BigInteger.ZERO;
        for (int i = parts - 1; i >= 0; i--) {
            all = all.multiply(BASE).add(BigInteger.valueOf(bench.part(bottom, i)));
        }
        boolean tooShort = bench.part(bottom, parts) != 0;
        boolean tooLong = parts > 1 && bench.part(bottom, parts - 1) == 0;
        return tooShort || tooLong ? BigInteger.valueOf(Long.MIN_VALUE) : all;
    }

    /** A CROWD by SLOT 7: WORTH, SIZE, HEAP and SHARE of each NAME. */
    static DrawBench benchOf(int... facts) {
        DrawBench bench = new DrawBench();
        takeCrowd(bench, facts);
        return bench;
    }

    static void takeCrowd(DrawBench bench, int... facts) {
        bench.row(7, 1, facts.length + 1);
        bench.write(7, 0, facts.length / 4);
        for (int i = 0; i < facts.length; i++) {
            bench.write(7, i + 1, facts[i]);
        }
        if (bench.crowd(7) != facts.length / 4) {
            throw new IllegalStateException("the test's crowd was refused");
        }
        bench.tear(7);
    }

    void end(String test) {
        System.out.println(test + ": " + made + " answers, " + wrong + " of them not as due");
        if (wrong != 0 || made == 0) {
            System.exit(1);
        }
    }
}
