import java.math.BigInteger;

/** Counts and prints every answer that is not the one that is due, with the sentence that asks for it. */
final class Check {
    private static final BigInteger BASE = BigInteger.valueOf(1_000_000_000L);
    private static final Document DOCUMENT = new Document("../shared/DOC.md", "## ");
    private static final Document LANGUAGE = new Document("../shared/LANGUAGE.md", "(?=\\d+\\. )");
    private String sentence = "";
    private int sentences;
    private int wrong;
    private int made;
    private int madeBefore;

    /** The answers from here on are what this sentence of a promise asks for. */
    void promise(int number, String words) {
        words("Promise " + number, words);
    }

    /** The answers from here on are what this sentence under "Terms" asks for. */
    void terms(String words) {
        words("Terms", words);
    }

    /** The answers from here on are what this sentence of a part of the document asks for. */
    void words(String part, String words) {
        begin(part + ": \"" + words + "\"", DOCUMENT.says(part, words));
    }

    /** The answers from here on are what this sentence of a rule of LANGUAGE.md asks for. */
    void rule(int number, String words) {
        language(number + ".", words);
    }

    /** The answers from here on are what this sentence of a part of LANGUAGE.md asks for. */
    void language(String part, String words) {
        begin("LANGUAGE.md, " + part + " \"" + words + "\"", LANGUAGE.says(part, words));
    }

    private void begin(String next, boolean isThere) {
        closeSentence();
        sentence = next;
        sentences++;
        madeBefore = made;
        if (!isThere) {
            tellWrong("does not stand there");
        }
    }

    private void closeSentence() {
        if (sentences > 0 && made == madeBefore) {
            tellWrong("nothing was asked");
        }
    }

    private void tellWrong(String what) {
        wrong++;
        System.out.println(sentence.isEmpty() ? what : sentence + "\n    " + what);
    }

    void due(String call, long got, long want) {
        made++;
        if (got != want) {
            tellWrong(call + " answered " + got + ", due is " + want);
        }
    }

    void due(String call, boolean got, boolean want) {
        due(call, got ? 1 : 0, want ? 1 : 0);
    }

    void due(String call, String got, String want) {
        made++;
        if (!got.equals(want)) {
            tellWrong(call + " is " + got + ", due is " + want);
        }
    }

    /** The RESULT, told as "top/bottom" in lowest terms. */
    void result(String call, DrawBench bench, String want) {
        due("the RESULT of " + call, resultOf(bench), want);
    }

    void result(String call, DrawBench bench, Ratio want) {
        result(call, bench, want.toString());
    }

    static String resultOf(DrawBench bench) {
        BigInteger top = read(bench, false, bench.look(1));
        BigInteger bottom = read(bench, true, bench.look(2));
        if (bench.look(0) != 1 && bench.look(0) != top.negate().signum()) {
            return "a top of " + top + " with the sign " + bench.look(0);
        }
        return (bench.look(0) < 0 ? top.negate() : top) + "/" + bottom;
    }

    private static BigInteger read(DrawBench bench, boolean bottom, int parts) {
        BigInteger all = BigInteger.ZERO;
        for (int i = parts - 1; i >= 0; i--) {
            all = all.multiply(BASE).add(BigInteger.valueOf(bench.part(bottom, i)));
        }
        boolean tooShort = bench.part(bottom, parts) != 0;
        boolean tooLong = parts > 1 && bench.part(bottom, parts - 1) == 0;
        return tooShort || tooLong ? BigInteger.valueOf(Long.MIN_VALUE) : all;
    }

    /** The first inputs that are outside on both sides, and the last that an int can be. */
    static int[] outside(int lowest, int highest) {
        return new int[] {lowest - 1, highest + 1, Integer.MIN_VALUE, Integer.MAX_VALUE};
    }

    /** WORTH, SIZE, HEAP and SHARE of NAMES that are all alike. */
    static int[] alike(int names, int worth, int size, int heap, int share) {
        int[] one = {worth, size, heap, share};
        int[] facts = new int[4 * names];
        for (int i = 0; i < facts.length; i++) {
            facts[i] = one[i % 4];
        }
        return facts;
    }

    /** A ROW of just these numbers. */
    static void lay(DrawBench bench, int slot, int width, long... numbers) {
        bench.row(slot, width, numbers.length);
        fill(bench, slot, numbers);
    }

    /** The first numbers of the ROW that is there. */
    static void fill(DrawBench bench, int slot, long... numbers) {
        for (int i = 0; i < numbers.length; i++) {
            bench.write(slot, i, numbers[i]);
        }
    }

    /** The numbers of a ROW that tells a CROWD: WORTH, SIZE, HEAP and SHARE of each NAME. */
    static long[] rowOf(int... facts) {
        long[] numbers = new long[facts.length + 1];
        numbers[0] = facts.length / 4;
        for (int i = 0; i < facts.length; i++) {
            numbers[i + 1] = facts[i];
        }
        return numbers;
    }

    /** A CROWD by SLOT 7: WORTH, SIZE, HEAP and SHARE of each NAME. */
    static DrawBench benchOf(int... facts) {
        DrawBench bench = new DrawBench();
        takeCrowd(bench, facts);
        return bench;
    }

    static void takeCrowd(DrawBench bench, int... facts) {
        lay(bench, 7, 1, rowOf(facts));
        if (bench.crowd(7) != facts.length / 4) {
            throw new IllegalStateException("the test's crowd was refused");
        }
        bench.tear(7);
    }

    void end(String test) {
        closeSentence();
        System.out.println(test + ": " + sentences + " sentences, " + made + " answers, "
            + wrong + " of them not as due");
        if (wrong != 0 || made == 0) {
            System.exit(1);
        }
    }
}
