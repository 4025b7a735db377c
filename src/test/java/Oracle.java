import java.util.Arrays;

/** What the document asks, worked out from its words with no thought of speed. */
final class Oracle {
    final int names;
    final int[] worth;
    final int[] size;
    final int[] heap;
    final int[] share;
    final int[] drawn = new int[4];

    /** Takes WORTH, SIZE, HEAP and SHARE of each NAME. */
    Oracle(int... facts) {
        names = facts.length / 4;
        worth = column(facts, 0);
        size = column(facts, 1);
        heap = column(facts, 2);
        share = column(facts, 3);
    }

    private int[] column(int[] facts, int which) {
        int[] column = new int[names];
        for (int i = 0; i < names; i++) {
            column[i] = facts[4 * i + which];
        }
        return column;
    }

    boolean has(int set, int i) {
        return (set & 1 << i) != 0;
    }

    int allSizes() {
        return Arrays.stream(size).sum();
    }

    int heapNames(int h) {
        return (int) Arrays.stream(heap).filter(x -> x == h).count();
    }

    boolean mayDraw(int kind, int n) {
        if (kind == 1 || kind == 3) {
            return true;
        }
        if (n < 0 || n > names || kind == 2 && n == 0) {
            return false;
        }
        return kind != 2 || Arrays.stream(size).allMatch(s -> (long) s * n <= allSizes());
    }

    /** The chance of each set. */
    Ratio[] chances(int kind, int n) {
        Ratio[] chance = new Ratio[1 << names];
        Arrays.fill(chance, Ratio.ZERO);
        if (kind == 2) {
            countStarts(chance, n);
            return chance;
        }
        for (int set = 0; set < chance.length; set++) {
            chance[set] = weight(kind, n, set);
        }
        Ratio all = Ratio.ZERO;
        for (Ratio one : chance) {
            all = all.plus(one);
        }
        for (int set = 0; set < chance.length; set++) {
            chance[set] = chance[set].by(all);
        }
        return chance;
    }

    private void countStarts(Ratio[] chance, int n) {
        int turn = allSizes();
        int[] nameAt = new int[n * turn];
        int place = 0;
        for (int i = 0; i < names; i++) {
            for (int k = 0; k < n * size[i]; k++) {
                nameAt[place++] = i;
            }
        }
        for (int start = 0; start < turn; start++) {
            int set = 0;
            for (int at = start; at < nameAt.length; at += turn) {
                set |= 1 << nameAt[at];
            }
            chance[set] = chance[set].plus(Ratio.of(1, turn));
        }
    }

    private Ratio weight(int kind, int n, int set) {
        Ratio weight = Ratio.ONE;
        int[] fromHeap = new int[4];
        for (int i = 0; i < names; i++) {
            if (has(set, i)) {
                fromHeap[heap[i]]++;
            }
            if (kind == 3) {
                weight = weight.times(Ratio.of(has(set, i) ? share[i] : 100 - share[i], 100));
            } else if (kind == 4 && has(set, i)) {
                weight = weight.times(Ratio.of(size[i], 1));
            }
        }
        boolean fits = switch (kind) {
            case 1 -> Arrays.equals(fromHeap, drawn);
            case 3 -> true;
            default -> Integer.bitCount(set) == n;
        };
        return fits ? weight : Ratio.ZERO;
    }

    Ratio both(Ratio[] chance, int i, int j) {
        Ratio all = Ratio.ZERO;
        for (int set = 0; set < chance.length; set++) {
            if (has(set, i) && has(set, j)) {
                all = all.plus(chance[set]);
            }
        }
        return all;
    }

    Ratio many(Ratio[] chance) {
        Ratio all = Ratio.ZERO;
        for (int set = 0; set < chance.length; set++) {
            all = all.plus(chance[set].times(Ratio.of(Integer.bitCount(set), 1)));
        }
        return all;
    }

    int sets(Ratio[] chance) {
        return (int) Arrays.stream(chance).filter(c -> c.signum() > 0).count();
    }

    Ratio[] toldSums(Ratio[] chance) {
        Ratio[] byChance = new Ratio[names];
        for (int i = 0; i < names; i++) {
            Ratio itsChance = both(chance, i, i);
            byChance[i] = itsChance.signum() > 0 ? Ratio.of(worth[i], 1).by(itsChance) : Ratio.ZERO;
        }
        Ratio[] told = new Ratio[chance.length];
        for (int set = 0; set < chance.length; set++) {
            told[set] = Ratio.ZERO;
            for (int i = 0; i < names; i++) {
                if (has(set, i)) {
                    told[set] = told[set].plus(byChance[i]);
                }
            }
        }
        return told;
    }

    static Ratio meanOf(Ratio[] chance, Ratio[] of) {
        Ratio mean = Ratio.ZERO;
        for (int set = 0; set < chance.length; set++) {
            if (chance[set].signum() > 0) {
                mean = mean.plus(chance[set].times(of[set]));
            }
        }
        return mean;
    }

    static Ratio spreadOf(Ratio[] chance, Ratio[] of) {
        Ratio mean = meanOf(chance, of);
        Ratio[] squares = new Ratio[of.length];
        for (int set = 0; set < of.length; set++) {
            if (chance[set].signum() > 0) {
                Ratio off = of[set].minus(mean);
                squares[set] = off.times(off);
            }
        }
        return meanOf(chance, squares);
    }

    Ratio heapSpread(int h) {
        long n = 0;
        long squares = 0;
        long all = 0;
        for (int i = 0; i < names; i++) {
            if (heap[i] == h) {
                n++;
                squares += (long) worth[i] * worth[i];
                all += worth[i];
            }
        }
        return n < 2 ? Ratio.ZERO : Ratio.of(n * (n * squares - all * all), n - 1);
    }

    boolean mayShareOut(int t) {
        int withNames = 0;
        for (int h = 0; h < 4; h++) {
            withNames += heapNames(h) > 0 ? 1 : 0;
        }
        return t >= withNames && t <= names;
    }

    /** How t are SHARED OUT: every way in which 0 to 10 are drawn from each HEAP is looked at. */
    int[] sharedOut(int t) {
        int[] best = null;
        for (int way = 0; way < 11 * 11 * 11 * 11; way++) {
            int[] d = {way % 11, way / 11 % 11, way / 121 % 11, way / 1331};
            if (isSharing(d, t) && (best == null || isBetter(d, best))) {
                best = d;
            }
        }
        return best;
    }

    private boolean isSharing(int[] d, int t) {
        for (int h = 0; h < 4; h++) {
            if (d[h] > heapNames(h) || d[h] < 1 && heapNames(h) > 0) {
                return false;
            }
        }
        return Arrays.stream(d).sum() == t;
    }

    private boolean isBetter(int[] d, int[] than) {
        int order = sharingSum(d).compareTo(sharingSum(than));
        return order < 0 || order == 0 && Arrays.compare(d, than) > 0;
    }

    Ratio sharingSum(int[] d) {
        Ratio all = Ratio.ZERO;
        for (int h = 0; h < 4; h++) {
            if (d[h] > 0) {
                all = all.plus(heapSpread(h).by(Ratio.of(d[h], 1)));
            }
        }
        return all;
    }

    private int[] bySize() {
        return java.util.stream.IntStream.range(0, names).boxed()
            .sorted(java.util.Comparator.comparingInt((Integer i) -> size[i]).thenComparing(i -> i))
            .mapToInt(i -> i).toArray();
    }

    /** The lengths of the k BANDS: each set of places to cut at is looked at. */
    int[] bandLengths(int k) {
        int[] best = null;
        for (int cuts = 0; cuts < 1 << names - 1; cuts++) {
            if (Integer.bitCount(cuts) == k - 1) {
                int[] lengths = lengths(cuts, k);
                if (best == null || bandSum(lengths) < bandSum(best)
                    || bandSum(lengths) == bandSum(best) && Arrays.compare(lengths, best) < 0) {
                    best = lengths;
                }
            }
        }
        return best;
    }

    private int[] lengths(int cuts, int k) {
        int[] lengths = new int[k];
        int band = 0;
        for (int place = 0; place < names; place++) {
            lengths[band]++;
            if ((cuts & 1 << place) != 0) {
                band++;
            }
        }
        return lengths;
    }

    long bandSum(int[] lengths) {
        int[] order = bySize();
        long sum = 0;
        int place = 0;
        for (int length : lengths) {
            long squares = 0;
            long all = 0;
            for (int k = 0; k < length; k++) {
                long w = worth[order[place++]];
                squares += w * w;
                all += w;
            }
            sum += length * squares - all * all;
        }
        return sum;
    }

    int bandOf(int[] lengths, int name) {
        int[] order = bySize();
        int place = 0;
        for (int band = 0; band < lengths.length; band++) {
            for (int k = 0; k < lengths[band]; k++) {
                if (order[place++] == name) {
                    return band;
                }
            }
        }
        return -1;
    }
}
