/** Every question, asked first after each change of what it hangs on (promises 5 to 20). */
public final class ChangeTest {
    private static final int[] BEFORE = {
        9, 1, 1, 10, -8, 1, 1, 20, 7, 1, 2, 30, -6, 1, 2, 40, 5, 1, 2, 50};
    private static final int[] AFTER = {
        1, 3, 0, 25, 20, 2, 0, 50, -30, 4, 1, 75, 50, 3, 3, 10};
    private static final int SET = 5;
    private static final int QUESTIONS = 8;
    private static final Check CHECK = new Check();

    public static void main(String[] args) {
        for (int question = 0; question < QUESTIONS; question++) {
            afterCrowd(question);
            for (int kind = 0; kind < 5; kind++) {
                afterDraw(question, kind);
            }
            afterDrawn(question);
        }
        heapsAfterCrowd();
        bandsAfterCrowd();
        CHECK.end("ChangeTest");
    }

    private static void askAll(DrawBench bench) {
        for (int question = 0; question < QUESTIONS; question++) {
            ask(bench, question);
        }
        bench.least(4);
        bench.bands(3);
    }

    private static int ask(DrawBench bench, int question) {
        switch (question) {
            case 0: return bench.chance(1) ? 1 : 0;
            case 1: return bench.both(0, 2) ? 1 : 0;
            case 2: return bench.set(SET) ? 1 : 0;
            case 3: return bench.sum(SET) ? 1 : 0;
            case 4: bench.many(); return 1;
            case 5: bench.mean(); return 1;
            case 6: bench.spread(); return 1;
            default: return bench.sets();
        }
    }

    private static void due(String when, DrawBench bench, Oracle oracle, int question, int kind, int n) {
        String call = when + ", question " + question;
        Ratio[] chance = oracle.chances(kind, n);
        Ratio[] told = oracle.toldSums(chance);
        Ratio[] want = {
            oracle.both(chance, 1, 1), oracle.both(chance, 0, 2), chance[SET], told[SET],
            oracle.many(chance), Oracle.meanOf(chance, told), Oracle.spreadOf(chance, told)};
        int answer = ask(bench, question);
        CHECK.due(call, answer, question < want.length ? 1 : oracle.sets(chance));
        if (question < want.length) {
            CHECK.result(call, bench, want[question]);
        }
    }

    private static void afterCrowd(int question) {
        DrawBench bench = Check.benchOf(BEFORE);
        bench.draw(4, 3);
        askAll(bench);
        Check.takeCrowd(bench, AFTER);
        due("after a crowd", bench, new Oracle(AFTER), question, 0, 1);
    }

    private static void afterDraw(int question, int kind) {
        DrawBench bench = Check.benchOf(AFTER);
        Oracle oracle = new Oracle(AFTER);
        bench.drawn(0, 1);
        bench.drawn(1, 1);
        oracle.drawn[0] = 1;
        oracle.drawn[1] = 1;
        bench.draw(kind == 0 ? 4 : 0, 3);
        askAll(bench);
        bench.draw(kind, 2);
        due("after a draw of kind " + kind, bench, oracle, question, kind, 2);
    }

    private static void afterDrawn(int question) {
        DrawBench bench = Check.benchOf(AFTER);
        Oracle oracle = new Oracle(AFTER);
        bench.draw(1, 0);
        askAll(bench);
        bench.drawn(0, 2);
        bench.drawn(1, 1);
        oracle.drawn[0] = 2;
        oracle.drawn[1] = 1;
        due("after drawn", bench, oracle, question, 1, 0);
    }

    private static void heapsAfterCrowd() {
        Oracle oracle = new Oracle(AFTER);
        for (int h = 0; h < 4; h++) {
            DrawBench bench = Check.benchOf(BEFORE);
            askAll(bench);
            Check.takeCrowd(bench, AFTER);
            CHECK.due("share first", bench.share(4, h), oracle.sharedOut(4)[h]);
            CHECK.due("share then", bench.share(3, h), oracle.sharedOut(3)[h]);
            bench.heap(h);
            CHECK.result("heap " + h, bench, oracle.heapSpread(h));
        }
        DrawBench bench = Check.benchOf(BEFORE);
        askAll(bench);
        Check.takeCrowd(bench, AFTER);
        bench.least(4);
        CHECK.result("least first", bench, oracle.sharingSum(oracle.sharedOut(4)));
    }

    private static void bandsAfterCrowd() {
        Oracle oracle = new Oracle(AFTER);
        for (int k = 1; k <= 4; k++) {
            DrawBench bench = Check.benchOf(BEFORE);
            askAll(bench);
            Check.takeCrowd(bench, AFTER);
            for (int i = 0; i < 4; i++) {
                CHECK.due("band first", bench.band(k, i), oracle.bandOf(oracle.bandLengths(k), i));
            }
            CHECK.due("bands then", bench.bands(k), oracle.bandSum(oracle.bandLengths(k)));
        }
    }
}
