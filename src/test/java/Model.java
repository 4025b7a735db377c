import java.math.BigInteger;

/** A bench by the document's words, call by call: the plainest state, and an Oracle for its CROWD. */
final class Model {
    private static final BigInteger BASE = BigInteger.valueOf(1_000_000_000L);
    private static final int[] LOWEST = {-100, 1, 0, 0};
    private static final int[] HIGHEST = {100, 50, 3, 100};
    private final long[][] rows = new long[8][];
    private final int[] widths = new int[8];
    private Oracle oracle = new Oracle(0, 1, 0, 0);
    private int kind = 0;
    private int n = 1;
    private Ratio result = Ratio.ZERO;
    /** Of the DRAW as it is, or null when it has changed since they were asked for. */
    private Ratio[] chances;

    private static boolean isWithin(int lowest, long v, int highest) {
        return v >= lowest && v <= highest;
    }

    private boolean isName(int i) {
        return isWithin(0, i, oracle.names - 1);
    }

    private boolean isSet(int set) {
        return isWithin(0, set, (1 << oracle.names) - 1);
    }

    private boolean tell(boolean may, Ratio told) {
        if (may) {
            result = told;
        }
        return may;
    }

    private Ratio[] chances() {
        if (chances == null) {
            chances = oracle.chances(kind, n);
        }
        return chances;
    }

    int row(int slot, int width, int length) {
        if (!isWithin(0, slot, 7) || !isWithin(0, width, 3) || length > 60) {
            return -2;
        }
        if (length < 0) {
            return -3;
        }
        rows[slot] = new long[length];
        widths[slot] = width;
        return 0;
    }

    boolean tear(int slot) {
        boolean had = isWithin(0, slot, 7) && rows[slot] != null;
        if (had) {
            rows[slot] = null;
        }
        return had;
    }

    int write(int slot, int i, long v) {
        if (!isWithin(0, slot, 7)) {
            return -2;
        }
        if (rows[slot] == null) {
            return -5;
        }
        if (!isWithin(0, i, rows[slot].length - 1)) {
            return -6;
        }
        int unused = 64 - (8 << widths[slot]);
        rows[slot][i] = v << unused >> unused;
        return 0;
    }

    int crowd(int slot) {
        if (!isWithin(0, slot, 7)) {
            return -2;
        }
        if (rows[slot] == null) {
            return -5;
        }
        if (rows[slot].length == 0) {
            return -6;
        }
        if (!isWithin(1, rows[slot][0], 10)) {
            return -4;
        }
        int[] facts = new int[4 * (int) rows[slot][0]];
        for (int i = 0; i < facts.length; i++) {
            if (i + 1 == rows[slot].length) {
                return -6;
            }
            if (!isWithin(LOWEST[i % 4], rows[slot][i + 1], HIGHEST[i % 4])) {
                return -4;
            }
            facts[i] = (int) rows[slot][i + 1];
        }
        oracle = new Oracle(facts);
        draw(0, 1);
        return oracle.names;
    }

    int drawn(int heap, int fromIt) {
        if (!isWithin(0, heap, 3)) {
            return -2;
        }
        if (!isWithin(0, fromIt, oracle.heapNames(heap))) {
            return -4;
        }
        oracle.drawn[heap] = fromIt;
        chances = null;
        return 0;
    }

    int draw(int newKind, int newN) {
        if (!isWithin(0, newKind, 4)) {
            return -2;
        }
        if (!oracle.mayDraw(newKind, newN)) {
            return -4;
        }
        kind = newKind;
        n = newN;
        chances = null;
        return 0;
    }

    boolean chance(int i) {
        return both(i, i);
    }

    boolean both(int i, int j) {
        boolean may = isName(i) && isName(j);
        return tell(may, may ? oracle.both(chances(), i, j) : null);
    }

    boolean set(int set) {
        return tell(isSet(set), isSet(set) ? chances()[set] : null);
    }

    int sets() {
        return oracle.sets(chances());
    }

    void many() {
        result = oracle.many(chances());
    }

    boolean sum(int set) {
        return tell(isSet(set), isSet(set) ? oracle.toldSums(chances())[set] : null);
    }

    void mean() {
        result = Oracle.meanOf(chances(), oracle.toldSums(chances()));
    }

    void spread() {
        result = Oracle.spreadOf(chances(), oracle.toldSums(chances()));
    }

    boolean heap(int heap) {
        return tell(isWithin(0, heap, 3), oracle.heapSpread(heap));
    }

    int share(int t, int heap) {
        if (!isWithin(0, heap, 3)) {
            return -2;
        }
        return oracle.mayShareOut(t) ? oracle.sharedOut(t)[heap] : -4;
    }

    boolean least(int t) {
        boolean may = oracle.mayShareOut(t);
        return tell(may, may ? oracle.sharingSum(oracle.sharedOut(t)) : null);
    }

    long bands(int k) {
        return isWithin(1, k, oracle.names) ? oracle.bandSum(oracle.bandLengths(k)) : -1;
    }

    int band(int k, int i) {
        boolean may = isWithin(1, k, oracle.names) && isName(i);
        return may ? oracle.bandOf(oracle.bandLengths(k), i) : -1;
    }

    int look(int what) {
        return switch (what) {
            case 0 -> result.signum();
            case 1 -> partsOf(result.top().abs());
            case 2 -> partsOf(result.bottom());
            default -> -1;
        };
    }

    private static int partsOf(BigInteger number) {
        return (number.toString().length() + 8) / 9;
    }

    int part(boolean bottom, int i) {
        BigInteger number = bottom ? result.bottom() : result.top().abs();
        boolean may = isWithin(0, i, partsOf(number) - 1);
        return may ? number.divide(BASE.pow(i)).mod(BASE).intValue() : 0;
    }

    int count(int what) {
        int heap = what % 10;
        if ((what / 10 == 1 || what / 10 == 2) && heap < 4) {
            return what / 10 == 1 ? oracle.heapNames(heap) : oracle.drawn[heap];
        }
        return switch (what) {
            case 0 -> oracle.names;
            case 1 -> kind;
            case 2 -> kind == 3 ? 0 : kind == 1 ? java.util.Arrays.stream(oracle.drawn).sum() : n;
            case 3 -> (int) java.util.Arrays.stream(rows).filter(row -> row != null).count();
            default -> -1;
        };
    }
}
