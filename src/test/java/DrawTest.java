/** Promises 6 and 7: drawn and draw. */
public final class DrawTest {
    private static final Check CHECK = new Check();

    public static void main(String[] args) {
        drawn();
        drawnFromThenOn();
        draw();
        drawRefused();
        drawSteps();
        refusedDrawKeepsTheOldOne();
        CHECK.end("DrawTest");
    }

    private static DrawBench threeHeaps() {
        return Check.benchOf(1, 2, 0, 0, 2, 3, 0, 50, 3, 5, 2, 100, 4, 4, 3, 10);
    }

    private static void drawn() {
        DrawBench bench = threeHeaps();
        bench.mean();
        CHECK.due("drawn(-1, 0)", bench.drawn(-1, 0), -2);
        CHECK.due("drawn(4, 0)", bench.drawn(4, 0), -2);
        CHECK.due("drawn(4, -1)", bench.drawn(4, -1), -2);
        CHECK.due("drawn(max, 0)", bench.drawn(Integer.MAX_VALUE, 0), -2);
        CHECK.due("drawn(0, -1)", bench.drawn(0, -1), -4);
        CHECK.due("drawn(0, 3)", bench.drawn(0, 3), -4);
        CHECK.due("drawn(0, min)", bench.drawn(0, Integer.MIN_VALUE), -4);
        CHECK.due("drawn(1, 1)", bench.drawn(1, 1), -4);
        CHECK.due("drawn(1, 0)", bench.drawn(1, 0), 0);
        CHECK.due("drawn(0, 2)", bench.drawn(0, 2), 0);
        CHECK.due("drawn(2, 1)", bench.drawn(2, 1), 0);
        CHECK.due("drawn(3, 1)", bench.drawn(3, 1), 0);
        CHECK.due("drawn(3, 2)", bench.drawn(3, 2), -4);
        CHECK.due("count(20)", bench.count(20), 2);
        CHECK.due("count(21)", bench.count(21), 0);
        CHECK.due("count(22)", bench.count(22), 1);
        CHECK.due("count(23)", bench.count(23), 1);
        CHECK.due("the kind", bench.count(1), 0);
        CHECK.due("the n", bench.count(2), 1);
        CHECK.result("mean", bench, "10/1");
    }

    private static void drawnFromThenOn() {
        DrawBench bench = threeHeaps();
        bench.drawn(0, 1);
        bench.draw(1, 99);
        bench.chance(0);
        CHECK.result("chance(0)", bench, "1/2");
        bench.chance(3);
        CHECK.result("chance(3)", bench, "0/1");
        bench.drawn(3, 1);
        bench.chance(3);
        CHECK.result("chance(3) then", bench, "1/1");
        CHECK.due("count(2)", bench.count(2), 2);
        bench.drawn(0, 2);
        bench.set(11);
        CHECK.result("set(11)", bench, "1/1");
        CHECK.due("sets", bench.sets(), 1);
        CHECK.due("count(2)", bench.count(2), 3);
        bench.draw(0, 1);
        bench.drawn(0, 0);
        bench.chance(0);
        CHECK.result("ALIKE does not look at drawn", bench, "1/4");
        bench.draw(1, 0);
        bench.chance(0);
        CHECK.result("drawn is kept", bench, "0/1");
    }

    private static void draw() {
        DrawBench bench = threeHeaps();
        for (int kind = 0; kind < 5; kind++) {
            CHECK.due("draw", bench.draw(kind, 2), 0);
            CHECK.due("kind", bench.count(1), kind);
            CHECK.due("n", bench.count(2), kind == 1 || kind == 3 ? 0 : 2);
        }
        int[] strange = {-1, 5, Integer.MIN_VALUE, Integer.MAX_VALUE};
        for (int n : strange) {
            CHECK.due("draw(1, strange)", bench.draw(1, n), 0);
            CHECK.due("draw(3, strange)", bench.draw(3, n), 0);
            CHECK.due("draw(0, strange)", bench.draw(0, n), -4);
            CHECK.due("draw(2, strange)", bench.draw(2, n), -4);
            CHECK.due("draw(4, strange)", bench.draw(4, n), -4);
        }
        CHECK.due("count(2) of OWN", bench.count(2), 0);
        CHECK.due("draw(0, 0)", bench.draw(0, 0), 0);
        CHECK.due("draw(0, 4)", bench.draw(0, 4), 0);
        CHECK.due("draw(4, 0)", bench.draw(4, 0), 0);
        CHECK.due("draw(4, 4)", bench.draw(4, 4), 0);
        CHECK.due("draw(2, 0)", bench.draw(2, 0), -4);
    }

    private static void drawRefused() {
        DrawBench bench = threeHeaps();
        CHECK.due("draw(-1, 1)", bench.draw(-1, 1), -2);
        CHECK.due("draw(5, 1)", bench.draw(5, 1), -2);
        CHECK.due("draw(5, -1)", bench.draw(5, -1), -2);
        CHECK.due("draw(min, 1)", bench.draw(Integer.MIN_VALUE, 1), -2);
        CHECK.due("draw(max, 1)", bench.draw(Integer.MAX_VALUE, 1), -2);
    }

    /** SIZES 2, 3, 5, 4: T is 14, so that two steps just fit and three do not. */
    private static void drawSteps() {
        DrawBench bench = threeHeaps();
        CHECK.due("two steps", bench.draw(2, 2), 0);
        CHECK.due("three steps", bench.draw(2, 3), -4);
        DrawBench even = Check.benchOf(0, 3, 0, 0, 0, 1, 0, 0, 0, 2, 0, 0);
        CHECK.due("a size times n is just T", even.draw(2, 2), 0);
        even.chance(0);
        CHECK.result("such a name is always drawn", even, "1/1");
        DrawBench alike = Check.benchOf(0, 7, 0, 0, 0, 7, 0, 0, 0, 7, 0, 0);
        CHECK.due("all of them", alike.draw(2, 3), 0);
        CHECK.due("one set", alike.sets(), 1);
        CHECK.due("one name", new DrawBench().draw(2, 1), 0);
    }

    private static void refusedDrawKeepsTheOldOne() {
        DrawBench bench = threeHeaps();
        bench.draw(4, 2);
        bench.set(3);
        String result = Check.resultOf(bench);
        bench.draw(2, 3);
        bench.draw(0, 5);
        bench.draw(7, 1);
        CHECK.due("kind", bench.count(1), 4);
        CHECK.due("n", bench.count(2), 2);
        CHECK.result("nothing changed", bench, result);
        bench.set(3);
        CHECK.result("nor the draw", bench, result);
    }
}
