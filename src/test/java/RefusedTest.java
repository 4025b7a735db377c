import java.util.function.ToIntFunction;

/** What "Terms" says of every refused call, for each refusal of each promise; and of memory and calls. */
public final class RefusedTest {
    private static final int KINDS = 5;
    private static final int NONE_AMISS = -1;
    /** The RESULT is a state's first line. */
    private static final int AFTER_THE_RESULT = 1;
    private static final Check CHECK = new Check();
    private static final String[] BEFORE = new String[KINDS];

    public static void main(String[] args) {
        for (int kind = 0; kind < KINDS; kind++) {
            int itsKind = kind;
            BEFORE[kind] = State.of(() -> State.busy(itsKind));
        }
        rowsAreKept();
        crowdsAreKept();
        drawsAreKept();
        chancesAreKept();
        sumsAreKept();
        sharesAreKept();
        looksAreKept();
        firstOfTheRefusals();
        questionsChangeNoMore();
        memoryIsItsOwn();
        lastCall();
        CHECK.end("RefusedTest");
    }

    /** The call answers as due, and a bench that it was made on tells all that one without it tells. */
    private static void kept(String call, ToIntFunction<DrawBench> made, int want) {
        for (int kind = 0; kind < KINDS; kind++) {
            CHECK.due(call + ", kind " + kind, made.applyAsInt(State.busy(kind)), want);
        }
        stands(call, made, 0);
    }

    private static void stands(String call, ToIntFunction<DrawBench> made, int fromLine) {
        for (int kind = 0; kind < KINDS; kind++) {
            int itsKind = kind;
            String after = State.of(() -> {
                DrawBench bench = State.busy(itsKind);
                made.applyAsInt(bench);
                return bench;
            });
            CHECK.due("what " + call + " changes, kind " + kind,
                firstChange(BEFORE[kind], after, fromLine), "nothing");
        }
    }

    private static String firstChange(String before, String after, int fromLine) {
        String[] was = before.split("\n");
        String[] is = after.split("\n");
        for (int i = fromLine; i < Math.min(was.length, is.length); i++) {
            if (!was[i].equals(is[i])) {
                return was[i] + " to " + is[i];
            }
        }
        return was.length == is.length ? "nothing" : "how many lines there are";
    }

    private static int yes(boolean answer) {
        return answer ? 1 : 0;
    }

    private static void rowsAreKept() {
        CHECK.promise(2, "-2: there is no such SLOT or WIDTH, or n is above 60");
        kept("row(-1, 0, 1)", b -> b.row(-1, 0, 1), -2);
        kept("row(8, 0, 1)", b -> b.row(8, 0, 1), -2);
        kept("row(1, -1, 1)", b -> b.row(1, -1, 1), -2);
        kept("row(1, 4, 1)", b -> b.row(1, 4, 1), -2);
        kept("row(1, 0, 61)", b -> b.row(1, 0, 61), -2);
        kept("row(5, 0, 61)", b -> b.row(5, 0, 61), -2);
        CHECK.promise(2, "-3: n is below 0");
        kept("row(1, 0, -1)", b -> b.row(1, 0, -1), -3);
        kept("row(5, 0, -1)", b -> b.row(5, 0, -1), -3);
        CHECK.promise(3, "false, if it had nothing, or there is none such");
        kept("tear(5)", b -> yes(b.tear(5)), 0);
        kept("tear(-1)", b -> yes(b.tear(-1)), 0);
        kept("tear(8)", b -> yes(b.tear(8)), 0);
        CHECK.promise(4, "-2: there is no such SLOT");
        kept("write(-1, 0, 2)", b -> b.write(-1, 0, 2), -2);
        kept("write(8, 0, 2)", b -> b.write(8, 0, 2), -2);
        CHECK.promise(4, "-5: it has nothing");
        kept("write(5, 0, 2)", b -> b.write(5, 0, 2), -5);
        CHECK.promise(4, "-6: there is no such number");
        kept("write(1, -1, 2)", b -> b.write(1, -1, 2), -6);
        kept("write(1, 9, 2)", b -> b.write(1, 9, 2), -6);
        kept("write(2, 60, 2)", b -> b.write(2, 60, 2), -6);
        kept("write(4, 0, 2)", b -> b.write(4, 0, 2), -6);
    }

    private static void crowdsAreKept() {
        CHECK.promise(5, "-2: there is no such SLOT");
        kept("crowd(-1)", b -> b.crowd(-1), -2);
        kept("crowd(8)", b -> b.crowd(8), -2);
        CHECK.promise(5, "-5: it has nothing");
        kept("crowd(5)", b -> b.crowd(5), -5);
        CHECK.promise(5, "-6: the ROW ends ahead of one");
        kept("crowd(4)", b -> b.crowd(4), -6);
        // SLOT 6 tells other NAMES than those there are, up to where it ends or is amiss
        for (int length = 1; length < 13; length++) {
            int itsLength = length;
            kept("crowd of " + length, b -> crowdThenTear(b, itsLength, NONE_AMISS), -6);
        }
        CHECK.promise(5, "-4: one is not as told");
        for (int amiss = 0; amiss < 13; amiss++) {
            int itsAmiss = amiss;
            kept("crowd, amiss " + amiss, b -> crowdThenTear(b, 13, itsAmiss), -4);
        }
    }

    /** The answer of a CROWD of three NAMES, told by a ROW of that length with one number amiss. */
    private static int crowdThenTear(DrawBench bench, int length, int amiss) {
        long[] numbers = {3, 50, 6, 1, 60, 51, 7, 1, 61, 52, 8, 1, 62};
        bench.row(6, 1, length);
        for (int i = 0; i < length; i++) {
            bench.write(6, i, i == amiss ? -101 : numbers[i]);
        }
        int answer = bench.crowd(6);
        bench.tear(6);
        return answer;
    }

    private static void drawsAreKept() {
        CHECK.promise(6, "-2: there is no such HEAP");
        kept("drawn(-1, 0)", b -> b.drawn(-1, 0), -2);
        kept("drawn(4, 0)", b -> b.drawn(4, 0), -2);
        CHECK.promise(6, "-4: n is below 0, or above the HEAP's NAMES");
        kept("drawn(0, -1)", b -> b.drawn(0, -1), -4);
        kept("drawn(0, 3)", b -> b.drawn(0, 3), -4);
        kept("drawn(1, 1)", b -> b.drawn(1, 1), -4);
        CHECK.promise(7, "-2: there is no such kind");
        kept("draw(-1, 1)", b -> b.draw(-1, 1), -2);
        kept("draw(5, 1)", b -> b.draw(5, 1), -2);
        CHECK.promise(7, "-4: n is not 0 to the NAMES (1 to them of 2)");
        kept("draw(0, -1)", b -> b.draw(0, -1), -4);
        kept("draw(0, 5)", b -> b.draw(0, 5), -4);
        kept("draw(2, 0)", b -> b.draw(2, 0), -4);
        kept("draw(2, 5)", b -> b.draw(2, 5), -4);
        kept("draw(4, -1)", b -> b.draw(4, -1), -4);
        kept("draw(4, 5)", b -> b.draw(4, 5), -4);
        CHECK.promise(7, "of 2: a NAME's SIZE times n is above T");
        kept("draw(2, 4)", b -> b.draw(2, 4), -4);
    }

    private static void chancesAreKept() {
        CHECK.promise(8, "false if there is none such");
        kept("chance(-1)", b -> yes(b.chance(-1)), 0);
        kept("chance(4)", b -> yes(b.chance(4)), 0);
        CHECK.promise(9, "false if there is none such");
        kept("both(-1, 0)", b -> yes(b.both(-1, 0)), 0);
        kept("both(0, -1)", b -> yes(b.both(0, -1)), 0);
        kept("both(4, 0)", b -> yes(b.both(4, 0)), 0);
        kept("both(0, 4)", b -> yes(b.both(0, 4)), 0);
        kept("both(4, 4)", b -> yes(b.both(4, 4)), 0);
        CHECK.promise(10, "false if there is no such set");
        kept("set(-1)", b -> yes(b.set(-1)), 0);
        kept("set(16)", b -> yes(b.set(16)), 0);
    }

    private static void sumsAreKept() {
        CHECK.promise(13, "false if there is no such set");
        kept("sum(-1)", b -> yes(b.sum(-1)), 0);
        kept("sum(16)", b -> yes(b.sum(16)), 0);
        CHECK.promise(16, "false if there is none such");
        kept("heap(-1)", b -> yes(b.heap(-1)), 0);
        kept("heap(4)", b -> yes(b.heap(4)), 0);
    }

    private static void sharesAreKept() {
        CHECK.promise(17, "-2: there is no such HEAP");
        kept("share(3, -1)", b -> b.share(3, -1), -2);
        kept("share(3, 4)", b -> b.share(3, 4), -2);
        CHECK.promise(17, "-4: t is below the HEAPS that have NAMES, or above the NAMES");
        kept("share(2, 0)", b -> b.share(2, 0), -4);
        kept("share(5, 0)", b -> b.share(5, 0), -4);
        CHECK.promise(18, "false for such a t as is refused there");
        kept("least(2)", b -> yes(b.least(2)), 0);
        kept("least(5)", b -> yes(b.least(5)), 0);
        CHECK.promise(19, "-1: k is not 1 to the NAMES");
        kept("bands(0)", b -> b.bands(0), -1);
        kept("bands(5)", b -> b.bands(5), -1);
        CHECK.promise(20, "NONE for such a k, or if there is no such NAME");
        kept("band(0, 0)", b -> b.band(0, 0), -1);
        kept("band(5, 0)", b -> b.band(5, 0), -1);
        kept("band(2, -1)", b -> b.band(2, -1), -1);
        kept("band(2, 4)", b -> b.band(2, 4), -1);
    }

    private static void looksAreKept() {
        CHECK.promise(21, "NONE for another what");
        kept("look(-1)", b -> b.look(-1), -1);
        kept("look(3)", b -> b.look(3), -1);
        CHECK.promise(22, "0 where there is none such");
        kept("part(false, -1)", b -> b.part(false, -1), 0);
        kept("part(true, 99)", b -> b.part(true, 99), 0);
        CHECK.promise(23, "NONE for another what");
        for (int what : new int[] {-1, 4, 9, 14, 19, 24}) {
            kept("count(" + what + ")", b -> b.count(what), -1);
        }
    }

    private static void firstOfTheRefusals() {
        CHECK.terms("Each call that is refused gives the first of the refusals told of it, and changes nothing "
            + "(the RESULT stays).");
        kept("row: no SLOT, n below 0", b -> b.row(8, 0, -1), -2);
        kept("row: no WIDTH, n below 0", b -> b.row(1, 4, -1), -2);
        kept("write: no SLOT, no number", b -> b.write(8, -1, 0), -2);
        kept("write: nothing there, no number", b -> b.write(5, -1, 0), -5);
        kept("drawn: no HEAP, n below 0", b -> b.drawn(4, -1), -2);
        kept("drawn: no HEAP, n above all", b -> b.drawn(-1, 99), -2);
        kept("draw: no kind, n below 0", b -> b.draw(5, -1), -2);
        kept("draw: no kind, n above all", b -> b.draw(-1, 99), -2);
        kept("share: no HEAP, t too low", b -> b.share(0, 4), -2);
        kept("share: no HEAP, t too high", b -> b.share(99, -1), -2);
    }

    /** Questions are told to change the RESULT, or nothing at all. */
    private static void questionsChangeNoMore() {
        CHECK.promise(11, "How many sets have a chance above 0.");
        stands("sets()", DrawBench::sets, 0);
        CHECK.promise(17, "How many of t are SHARED OUT to a HEAP.");
        stands("share(4, 0)", b -> b.share(4, 0), 0);
        CHECK.promise(19, "The sum of k BANDS.");
        stands("bands(3)", b -> b.bands(3), 0);
        CHECK.promise(20, "In which of k BANDS (from 0 on) a NAME is");
        stands("band(3, 3)", b -> b.band(3, 3), 0);
        CHECK.promise(21, "Of the RESULT: 0 1, 0 or -1");
        stands("look(0)", b -> b.look(0), 0);
        CHECK.promise(22, "Part i (nine digits each, the lowest first) of the top");
        stands("part(true, 0)", b -> b.part(true, 0), 0);
        CHECK.promise(23, "0 NAMES, 1 the kind of the DRAW, 2 its n");
        stands("count(2)", b -> b.count(2), 0);
        onlyTheResult(8, "The RESULT is the CHANCE of a NAME", b -> yes(b.chance(3)));
        onlyTheResult(9, "The RESULT is the CHANCE of a pair", b -> yes(b.both(0, 3)));
        onlyTheResult(10, "The RESULT is the chance of just that set", b -> yes(b.set(3)));
        onlyTheResult(12, "The RESULT is the mean of how many are drawn", b -> asked(b::many));
        onlyTheResult(13, "The RESULT is THE TOLD SUM of a set", b -> yes(b.sum(15)));
        onlyTheResult(14, "The RESULT is the MEAN", b -> asked(b::mean));
        onlyTheResult(15, "The RESULT is the SPREAD", b -> asked(b::spread));
        onlyTheResult(16, "The RESULT is V of a HEAP", b -> yes(b.heap(0)));
        onlyTheResult(18, "The RESULT is the least sum of V / DRAWN", b -> yes(b.least(4)));
    }

    private static int asked(Runnable question) {
        question.run();
        return 1;
    }

    private static void onlyTheResult(int promise, String sentence, ToIntFunction<DrawBench> made) {
        CHECK.promise(promise, sentence);
        CHECK.due("the call", made.applyAsInt(State.busy(0)), 1);
        stands("the call", made, AFTER_THE_RESULT);
    }

    private static void memoryIsItsOwn() {
        CHECK.terms("All memory is the bench's own.");
        String fresh = State.of(DrawBench::new);
        for (int kind = 0; kind < KINDS; kind++) {
            int itsKind = kind;
            String afterAnother = State.of(() -> {
                State.busy(itsKind);
                return new DrawBench();
            });
            CHECK.due("what another bench changes", firstChange(fresh, afterAnother, 0), "nothing");
            String besideAnother = State.of(() -> {
                DrawBench bench = State.busy(itsKind);
                State.busy((itsKind + 1) % KINDS).spread();
                new DrawBench().spread();
                return bench;
            });
            CHECK.due("what a later bench changes", firstChange(BEFORE[kind], besideAnother, 0), "nothing");
        }
    }

    private static void lastCall() {
        CHECK.words("What it is", "An object is used for at most 512 calls after it has been made");
        CHECK.due("sets(), call 512", benchAfter(511).sets(), 10);
        CHECK.due("row, call 512", benchAfter(511).row(0, 0, 60), 0);
        CHECK.due("crowd, call 512", benchAfter(511).crowd(7), -5);
        DrawBench bench = benchAfter(508);
        bench.mean();
        CHECK.due("look(0), call 510", bench.look(0), -1);
        CHECK.due("part(true, 0), call 511", bench.part(true, 0), 1);
        CHECK.due("part(false, 0), call 512", bench.part(false, 0), 1000);
    }

    /** A bench on which so many calls have been made: 44 for the CROWD, the last one a DRAW. */
    private static DrawBench benchAfter(int calls) {
        DrawBench bench = Check.benchOf(Check.alike(10, -100, 50, 3, 100));
        for (int call = 45; call < calls; call++) {
            if (call % 2 == 0) {
                bench.spread();
            } else {
                bench.draw(call % KINDS, 9);
            }
        }
        bench.draw(4, 9);
        return bench;
    }
}
