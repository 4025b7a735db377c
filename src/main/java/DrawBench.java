import java.util.Arrays;

/**
 * A bench for draws from a crowd: exact chances, the told sum with its mean and spread, how to
 * share a draw out among heaps, and how to cut the crowd into bands.
 */
public final class DrawBench {
    public static final int NONE = -1;

    private static final int NO_SUCH = -2;
    private static final int BELOW_ZERO = -3;
    private static final int NOT_AS_TOLD = -4;
    private static final int NOTHING_THERE = -5;
    private static final int NO_NUMBER = -6;

    private static final int SLOTS = 8;
    private static final int WIDTHS = 4;
    private static final int LONGEST_ROW = 60;

    private static final int MOST_NAMES = 10;
    private static final int MOST_SETS = 1024;
    private static final int HEAPS = 4;
    private static final int FACTS = 4;

    private static final int ALIKE = 0;
    private static final int BY_HEAPS = 1;
    private static final int STEPS = 2;
    private static final int OWN = 3;
    private static final int WEIGHED = 4;
    private static final int FULL_SHARE = 100;

    /** Numbers are held in parts of nine digits, as the document tells them. */
    private static final long BASE = 1_000_000_000L;
    /** The longest number is a spread's top: below 1.1e169, so 20 parts leave room for the sign. */
    private static final int PARTS = 20;
    /** A rest below this, times BASE, with a part added, still fits a long. */
    private static final long WHOLE_PART_DIVISOR = 9_000_000_000L;
    /** A gcd of longs needs fewer than 100 steps. */
    private static final int GCD_STEPS = 200;
    /** Each of the numbers 1 to 10 divides it: sums of V / DRAWN are whole over its square. */
    private static final long EVEN = 2520L;

    private final Slots slots;
    private final Crowd people;
    private final Lots lots;
    private final Fraction result;
    private final Tally tally;
    private final Sharing sharing;
    private final Cutting cutting;

    public DrawBench() {
        slots = new Slots();
        people = new Crowd();
        lots = new Lots();
        result = new Fraction();
        tally = new Tally();
        sharing = new Sharing();
        cutting = new Cutting();
    }

    public int row(int slot, int width, int n) {
        if (!isSlot(slot) || width < 0 || width >= WIDTHS || n > LONGEST_ROW) {
            return NO_SUCH;
        }
        if (n < 0) {
            return BELOW_ZERO;
        }
        slots.lay(slot, width, n);
        return 0;
    }

    public boolean tear(int slot) {
        if (!isSlot(slot) || !slots.isLaid(slot)) {
            return false;
        }
        slots.length[slot] = NONE;
        return true;
    }

    public int write(int slot, int i, long v) {
        if (!isSlot(slot)) {
            return NO_SUCH;
        }
        if (!slots.isLaid(slot)) {
            return NOTHING_THERE;
        }
        if (i < 0 || i >= slots.length[slot]) {
            return NO_NUMBER;
        }
        slots.put(slot, i, v);
        return 0;
    }

    public int crowd(int slot) {
        if (!isSlot(slot)) {
            return NO_SUCH;
        }
        if (!slots.isLaid(slot)) {
            return NOTHING_THERE;
        }
        int verdict = slots.tellsCrowd(slot);
        if (verdict < 0) {
            return verdict;
        }
        people.take(slots, slot);
        lots.forget();
        return people.names;
    }

    public int drawn(int heap, int n) {
        if (!isHeap(heap)) {
            return NO_SUCH;
        }
        if (n < 0 || n > people.heapNames(heap)) {
            return NOT_AS_TOLD;
        }
        lots.fromHeap[heap] = n;
        lots.stale = true;
        return 0;
    }

    public int draw(int kind, int n) {
        if (kind < ALIKE || kind > WEIGHED) {
            return NO_SUCH;
        }
        if (kind == BY_HEAPS || kind == OWN) {
            lots.choose(kind, 0);
            return 0;
        }
        if (n < 0 || n > people.names || kind == STEPS && !canStep(n)) {
            return NOT_AS_TOLD;
        }
        lots.choose(kind, n);
        return 0;
    }

    public boolean chance(int i) {
        return both(i, i);
    }

    public boolean both(int i, int j) {
        if (!isName(i) || !isName(j)) {
            return false;
        }
        lots.prepare(people);
        result.put(lots.weightOfPair(i, j), lots.whole);
        return true;
    }

    public boolean set(int set) {
        if (!isSet(set)) {
            return false;
        }
        lots.prepare(people);
        if (lots.kind == OWN) {
            tellOwnChance(set);
        } else {
            result.put(lots.weight[set], lots.whole);
        }
        return true;
    }

    public int sets() {
        lots.prepare(people);
        int found = 0;
        for (int set = 0; set < people.setCount(); set++) {
            if (lots.weight[set] > 0) {
                found++;
            }
        }
        return found;
    }

    public void many() {
        lots.prepare(people);
        long weight = 0;
        for (int i = 0; i < people.names; i++) {
            weight += lots.weightOfName(i);
        }
        result.put(weight, lots.whole);
    }

    public boolean sum(int set) {
        if (!isSet(set)) {
            return false;
        }
        lots.prepare(people);
        tellSum(set);
        return true;
    }

    public void mean() {
        lots.prepare(people);
        result.put(worthThatMayBeDrawn(), 1);
    }

    public void spread() {
        lots.prepare(people);
        tellSpread();
    }

    public boolean heap(int heap) {
        if (!isHeap(heap)) {
            return false;
        }
        result.put(people.spreadTop(heap), people.spreadBottom(heap));
        return true;
    }

    public int share(int t, int heap) {
        if (!isHeap(heap)) {
            return NO_SUCH;
        }
        if (!canShareOut(t)) {
            return NOT_AS_TOLD;
        }
        sharing.shareOut(people, t);
        return sharing.best[heap];
    }

    public boolean least(int t) {
        if (!canShareOut(t)) {
            return false;
        }
        sharing.shareOut(people, t);
        result.put(sharing.bestCost, EVEN * EVEN);
        return true;
    }

    public int bands(int k) {
        if (k < 1 || k > people.names) {
            return NONE;
        }
        cutting.cut(people, k);
        return cutting.leastOf(k, 0);
    }

    public int band(int k, int i) {
        if (k < 1 || k > people.names || !isName(i)) {
            return NONE;
        }
        cutting.cut(people, k);
        return cutting.bandOf(k, i);
    }

    public int look(int what) {
        switch (what) {
            case 0:
                return result.sign;
            case 1:
                return result.top.length();
            case 2:
                return result.bottom.length();
            default:
                return NONE;
        }
    }

    public int part(boolean bottom, int i) {
        if (i < 0 || i >= PARTS) {
            return 0;
        }
        return (int) (bottom ? result.bottom.parts[i] : result.top.parts[i]);
    }

    public int count(int what) {
        switch (what) {
            case 0:
                return people.names;
            case 1:
                return lots.kind;
            case 2:
                return lots.kind == BY_HEAPS ? lots.fromAllHeaps() : lots.n;
            case 3:
                return slots.laid();
            default:
                return countOfHeap(what);
        }
    }

    private int countOfHeap(int what) {
        if (what >= 10 && what < 10 + HEAPS) {
            return people.heapNames(what - 10);
        }
        if (what >= 20 && what < 20 + HEAPS) {
            return lots.fromHeap[what - 20];
        }
        return NONE;
    }

    private static boolean isSlot(int slot) {
        return slot >= 0 && slot < SLOTS;
    }

    private static boolean isHeap(int heap) {
        return heap >= 0 && heap < HEAPS;
    }

    private boolean isName(int i) {
        return i >= 0 && i < people.names;
    }

    private boolean isSet(int set) {
        return set >= 0 && set < people.setCount();
    }

    /** By STEPS no NAME may be hit twice, and at least one step is made. */
    private boolean canStep(int n) {
        if (n < 1) {
            return false;
        }
        int turn = people.allSizes();
        for (int i = 0; i < people.names; i++) {
            if (people.size[i] * n > turn) {
                return false;
            }
        }
        return true;
    }

    private boolean canShareOut(int t) {
        return t >= people.heapsWithNames() && t <= people.names;
    }

    /** OWN chances are over up to 100 to the tenth, which no long holds: hence not by weights. */
    private void tellOwnChance(int set) {
        result.top.become(1);
        for (int i = 0; i < people.names; i++) {
            int in = people.share[i];
            result.top.multiply((set >> i & 1) == 1 ? in : FULL_SHARE - in);
        }
        result.takeTop();
        for (int i = 0; i < people.names; i++) {
            result.divide(FULL_SHARE);
        }
    }

    /** With c the weight of a NAME, WORTH by CHANCE is WORTH * whole / c. */
    private void tellSum(int set) {
        tally.clear();
        for (int i = 0; i < people.names; i++) {
            if ((set >> i & 1) == 1 && lots.weightOfName(i) > 0) {
                tally.add(people.worth[i], lots.weightOfName(i));
            }
        }
        result.top.become(0);
        result.top.addProduct(tally.top, lots.whole);
        result.takeTop();
        divideByNames(set);
    }

    /** The weights are left as divisors one by one: so lowest terms need gcds of longs alone. */
    private void divideByNames(int set) {
        for (int i = 0; i < people.names; i++) {
            if ((set >> i & 1) == 1 && lots.weightOfName(i) > 0) {
                result.divide(lots.weightOfName(i));
            }
        }
    }

    /** The told sum is right in the mean, but for the NAMES that are never drawn. */
    private int worthThatMayBeDrawn() {
        int worth = 0;
        for (int i = 0; i < people.names; i++) {
            if (lots.weightOfName(i) > 0) {
                worth += people.worth[i];
            }
        }
        return worth;
    }

    /**
     * The mean of the square is whole * (sum over pairs of w(i) * w(j) * c(i, j) / (c(i) * c(j)));
     * it is built NAME by NAME over the product of the c so far, and the mean's square goes off.
     */
    private void tellSpread() {
        Big top = result.top;
        top.become(0);
        for (int i = 0; i < people.names; i++) {
            if (lots.weightOfName(i) > 0) {
                tallyPairsBefore(i);
                long worth = people.worth[i];
                top.multiply(lots.weightOfName(i));
                top.addProduct(tally.bottom, worth * worth);
                top.addProduct(tally.top, 2 * worth);
            }
        }
        top.multiply(lots.whole);
        tallyMean();
        top.addProduct(tally.top, -worthThatMayBeDrawn());
        result.takeTop();
        divideByNames(people.setCount() - 1);
    }

    /** The sum of w(j) * c(i, j) / c(j) for j below i, over the product of these c(j). */
    private void tallyPairsBefore(int i) {
        tally.clear();
        for (int j = 0; j < i; j++) {
            long weight = lots.weightOfName(j);
            if (weight > 0) {
                tally.add(people.worth[j] * lots.weightOfPair(i, j), weight);
            }
        }
    }

    /** The MEAN, over the product of all weights as the spread's top is. */
    private void tallyMean() {
        tally.clear();
        for (int i = 0; i < people.names; i++) {
            long weight = lots.weightOfName(i);
            if (weight > 0) {
                tally.add(people.worth[i] * weight, weight);
            }
        }
    }

    /** The ROWS, all in one array that is made once. */
    private static final class Slots {
        /** What WORTH, SIZE, HEAP and SHARE may be, in the order in which a ROW tells them. */
        private static final int[] LOWEST_FACT = {-100, 1, 0, 0};
        private static final int[] HIGHEST_FACT = {100, 50, 3, 100};

        final long[] numbers = new long[SLOTS * LONGEST_ROW];
        final int[] width = new int[SLOTS];
        /** NONE where a SLOT has nothing, for a ROW of 0 numbers is a ROW. */
        final int[] length = new int[SLOTS];

        Slots() {
            Arrays.fill(length, NONE);
        }

        boolean isLaid(int slot) {
            return length[slot] != NONE;
        }

        int laid() {
            int found = 0;
            for (int slot = 0; slot < SLOTS; slot++) {
                if (isLaid(slot)) {
                    found++;
                }
            }
            return found;
        }

        void lay(int slot, int newWidth, int n) {
            width[slot] = newWidth;
            length[slot] = n;
            for (int i = 0; i < n; i++) {
                numbers[slot * LONGEST_ROW + i] = 0;
            }
        }

        long at(int slot, int i) {
            return numbers[slot * LONGEST_ROW + i];
        }

        void put(int slot, int i, long v) {
            numbers[slot * LONGEST_ROW + i] = cutTo(width[slot], v);
        }

        private static long cutTo(int width, long v) {
            switch (width) {
                case 0:
                    return (byte) v;
                case 1:
                    return (short) v;
                case 2:
                    return (int) v;
                default:
                    return v;
            }
        }

        /** 0 if a ROW tells a CROWD, else the refusal of the first number that is amiss. */
        int tellsCrowd(int slot) {
            if (length[slot] < 1) {
                return NO_NUMBER;
            }
            long names = at(slot, 0);
            if (names < 1 || names > MOST_NAMES) {
                return NOT_AS_TOLD;
            }
            for (int i = 0; i < names * FACTS; i++) {
                if (i + 1 >= length[slot]) {
                    return NO_NUMBER;
                }
                long v = at(slot, i + 1);
                if (v < LOWEST_FACT[i % FACTS] || v > HIGHEST_FACT[i % FACTS]) {
                    return NOT_AS_TOLD;
                }
            }
            return 0;
        }

        /** A number of a ROW that tells a CROWD; such a number fits an int. */
        int fact(int slot, int name, int fact) {
            return (int) at(slot, 1 + name * FACTS + fact);
        }
    }

    /** The NAMES and what is known of each. */
    private static final class Crowd {
        int names;
        final int[] worth = new int[MOST_NAMES];
        final int[] size = new int[MOST_NAMES];
        final int[] share = new int[MOST_NAMES];
        /** The NAMES of each HEAP, as a set. */
        final int[] heapSet = new int[HEAPS];

        Crowd() {
            names = 1;
            size[0] = 1;
            heapSet[0] = 1;
        }

        void take(Slots slots, int slot) {
            names = (int) slots.at(slot, 0);
            Arrays.fill(heapSet, 0);
            for (int i = 0; i < names; i++) {
                worth[i] = slots.fact(slot, i, 0);
                size[i] = slots.fact(slot, i, 1);
                heapSet[slots.fact(slot, i, 2)] |= 1 << i;
                share[i] = slots.fact(slot, i, 3);
            }
        }

        int setCount() {
            return 1 << names;
        }

        int heapNames(int heap) {
            return Integer.bitCount(heapSet[heap]);
        }

        int heapsWithNames() {
            int found = 0;
            for (int heap = 0; heap < HEAPS; heap++) {
                if (heapSet[heap] != 0) {
                    found++;
                }
            }
            return found;
        }

        int allSizes() {
            int all = 0;
            for (int i = 0; i < names; i++) {
                all += size[i];
            }
            return all;
        }

        /** The top of V of a HEAP; 0 of one NAME or none, as the document has it. */
        long spreadTop(int heap) {
            long squares = 0;
            long all = 0;
            for (int i = 0; i < names; i++) {
                if ((heapSet[heap] >> i & 1) == 1) {
                    squares += worth[i] * worth[i];
                    all += worth[i];
                }
            }
            long n = heapNames(heap);
            return n * (n * squares - all * all);
        }

        long spreadBottom(int heap) {
            return Math.max(1, heapNames(heap) - 1);
        }
    }

    /** The DRAW: the chance of a set is its weight by the weight of all. */
    private static final class Lots {
        int kind = ALIKE;
        int n = 1;
        final int[] fromHeap = new int[HEAPS];
        /** The weights are made when they are first asked for after a change. */
        boolean stale = true;
        /** Of OWN only whether a set can be drawn: 1 or 0. */
        final long[] weight = new long[MOST_SETS];
        private final long[] pair = new long[MOST_NAMES * MOST_NAMES];
        long whole = 1;

        void forget() {
            Arrays.fill(fromHeap, 0);
            choose(ALIKE, 1);
        }

        void choose(int newKind, int newN) {
            kind = newKind;
            n = newN;
            stale = true;
        }

        int fromAllHeaps() {
            int all = 0;
            for (int heap = 0; heap < HEAPS; heap++) {
                all += fromHeap[heap];
            }
            return all;
        }

        long weightOfName(int i) {
            return pair[i * MOST_NAMES + i];
        }

        long weightOfPair(int i, int j) {
            return pair[Math.max(i, j) * MOST_NAMES + Math.min(i, j)];
        }

        void prepare(Crowd people) {
            if (!stale) {
                return;
            }
            for (int set = 0; set < people.setCount(); set++) {
                weight[set] = weigh(people, set);
            }
            if (kind == STEPS) {
                weighStarts(people);
            }
            if (kind == OWN) {
                pairOwn(people);
            } else {
                pairByWeights(people);
            }
            stale = false;
        }

        private long weigh(Crowd people, int set) {
            switch (kind) {
                case ALIKE:
                    return Integer.bitCount(set) == n ? 1 : 0;
                case BY_HEAPS:
                    return fitsHeaps(people, set) ? 1 : 0;
                case OWN:
                    return fitsShares(people, set) ? 1 : 0;
                case WEIGHED:
                    return Integer.bitCount(set) == n ? product(people, set) : 0;
                default:
                    return 0;
            }
        }

        private boolean fitsHeaps(Crowd people, int set) {
            for (int heap = 0; heap < HEAPS; heap++) {
                if (Integer.bitCount(set & people.heapSet[heap]) != fromHeap[heap]) {
                    return false;
                }
            }
            return true;
        }

        private boolean fitsShares(Crowd people, int set) {
            for (int i = 0; i < people.names; i++) {
                int barred = (set >> i & 1) == 1 ? 0 : FULL_SHARE;
                if (people.share[i] == barred) {
                    return false;
                }
            }
            return true;
        }

        /** The set of all NAMES stands alone, so its weight is free: 1 keeps all products low. */
        private long product(Crowd people, int set) {
            if (n == people.names) {
                return 1;
            }
            long product = 1;
            for (int i = 0; i < people.names; i++) {
                if ((set >> i & 1) == 1) {
                    product *= people.size[i];
                }
            }
            return product;
        }

        private void weighStarts(Crowd people) {
            int turn = people.allSizes();
            for (int start = 0; start < turn; start++) {
                weight[setFrom(people, start, turn)]++;
            }
        }

        /** All places hit are alike but for whole turns, so a NAME is hit by its stretch alone. */
        private int setFrom(Crowd people, int start, int turn) {
            int set = 0;
            int begin = 0;
            for (int i = 0; i < people.names; i++) {
                int stretch = n * people.size[i];
                if (Math.floorMod(start - begin, turn) < stretch) {
                    set |= 1 << i;
                }
                begin += stretch;
            }
            return set;
        }

        private void pairOwn(Crowd people) {
            whole = FULL_SHARE * FULL_SHARE;
            for (int i = 0; i < people.names; i++) {
                for (int j = 0; j < i; j++) {
                    pair[i * MOST_NAMES + j] = people.share[i] * people.share[j];
                }
                pair[i * MOST_NAMES + i] = people.share[i] * FULL_SHARE;
            }
        }

        private void pairByWeights(Crowd people) {
            whole = 0;
            Arrays.fill(pair, 0);
            for (int set = 0; set < people.setCount(); set++) {
                if (weight[set] > 0) {
                    whole += weight[set];
                    addToPairs(people, set);
                }
            }
        }

        private void addToPairs(Crowd people, int set) {
            for (int i = 0; i < people.names; i++) {
                if ((set >> i & 1) == 1) {
                    for (int j = 0; j <= i; j++) {
                        if ((set >> j & 1) == 1) {
                            pair[i * MOST_NAMES + j] += weight[set];
                        }
                    }
                }
            }
        }
    }

    /**
     * A whole number in parts of nine digits, the lowest first. One below 0 stands as what it
     * lacks to the first number that has no room, so that sums and products need no signs.
     */
    private static final class Big {
        final long[] parts = new long[PARTS];

        void become(long v) {
            long rest = v;
            for (int k = 0; k < PARTS; k++) {
                parts[k] = Math.floorMod(rest, BASE);
                rest = Math.floorDiv(rest, BASE);
            }
        }

        /** v is at most 7e18, so that no step leaves a long; so it is below, too. */
        void multiply(long v) {
            long high = v / BASE;
            long low = v % BASE;
            long below = 0;
            long carry = 0;
            for (int k = 0; k < PARTS; k++) {
                long here = parts[k];
                long x = here * low + below * high + carry;
                carry = Math.floorDiv(x, BASE);
                parts[k] = x - carry * BASE;
                below = here;
            }
        }

        void addProduct(Big other, long v) {
            long high = v / BASE;
            long low = v % BASE;
            long below = 0;
            long carry = 0;
            for (int k = 0; k < PARTS; k++) {
                long here = other.parts[k];
                long x = parts[k] + here * low + below * high + carry;
                carry = Math.floorDiv(x, BASE);
                parts[k] = x - carry * BASE;
                below = here;
            }
        }

        boolean isBelowZero() {
            return parts[PARTS - 1] >= BASE / 2;
        }

        int length() {
            for (int k = PARTS - 1; k > 0; k--) {
                if (parts[k] != 0) {
                    return k + 1;
                }
            }
            return 1;
        }

        boolean isZero() {
            return length() == 1 && parts[0] == 0;
        }

        /**
         * The rest of a division, whose quotient goes to another number or to this one. A large
         * divisor is taken digit by digit, as a rest times BASE would leave a long.
         */
        long divide(long divisor, Big quotient) {
            if (divisor < 1) {
                return 0;
            }
            long step = divisor < WHOLE_PART_DIVISOR ? BASE : 10;
            long rest = 0;
            for (int k = PARTS - 1; k >= 0; k--) {
                long here = parts[k];
                long times = 0;
                if (here != 0 || rest != 0) {
                    for (long unit = BASE / step; unit > 0; unit /= step) {
                        rest = rest * step + here / unit % step;
                        times = times * step + rest / divisor;
                        rest %= divisor;
                    }
                }
                quotient.parts[k] = times;
            }
            return rest;
        }
    }

    /** The RESULT: always in lowest terms, its sign apart from its top. */
    private static final class Fraction {
        int sign;
        final Big top = new Big();
        final Big bottom = new Big();
        private final Big unused = new Big();

        Fraction() {
            bottom.parts[0] = 1;
        }

        void put(long newTop, long newBottom) {
            top.become(newTop);
            takeTop();
            divide(newBottom);
        }

        /** What has been put into top, with its sign, is the whole number that this is. */
        void takeTop() {
            bottom.become(1);
            sign = top.isZero() ? 0 : 1;
            if (top.isBelowZero()) {
                sign = -1;
                top.multiply(-1);
            }
        }

        void divide(long divisor) {
            long common = gcd(top.divide(divisor, unused), divisor);
            if (common < 1) {
                return;
            }
            top.divide(common, top);
            bottom.multiply(divisor / common);
        }

        private static long gcd(long a, long b) {
            long x = a;
            long y = b;
            for (int step = 0; step < GCD_STEPS && y != 0; step++) {
                long rest = x % y;
                x = y;
                y = rest;
            }
            return x;
        }
    }

    /** A sum of fractions over the product of their bottoms. */
    private static final class Tally {
        final Big top = new Big();
        final Big bottom = new Big();

        void clear() {
            top.become(0);
            bottom.become(1);
        }

        void add(long itsTop, long itsBottom) {
            top.multiply(itsBottom);
            top.addProduct(bottom, itsTop);
            bottom.multiply(itsBottom);
        }
    }

    /** How t DRAWN are SHARED OUT. */
    private static final class Sharing {
        final int[] best = new int[HEAPS];
        /** Times the square of EVEN; NONE until a way has been tried, as no sum is below 0. */
        long bestCost;
        private final int[] fewest = new int[HEAPS];
        private final int[] most = new int[HEAPS];
        /** V times EVEN. */
        private final long[] spreads = new long[HEAPS];

        /** All ways are tried, those first that win of several with the same sum. */
        void shareOut(Crowd people, int t) {
            measure(people);
            bestCost = NONE;
            for (int a = most[0]; a >= fewest[0]; a--) {
                for (int b = most[1]; b >= fewest[1]; b--) {
                    for (int c = most[2]; c >= fewest[2]; c--) {
                        int d = t - a - b - c;
                        if (d >= fewest[3] && d <= most[3]) {
                            offer(a, b, c, d);
                        }
                    }
                }
            }
        }

        private void measure(Crowd people) {
            for (int heap = 0; heap < HEAPS; heap++) {
                most[heap] = people.heapNames(heap);
                fewest[heap] = Math.min(1, most[heap]);
                spreads[heap] = people.spreadTop(heap) * EVEN / people.spreadBottom(heap);
            }
        }

        private void offer(int a, int b, int c, int d) {
            long cost = cost(0, a) + cost(1, b) + cost(2, c) + cost(3, d);
            if (bestCost == NONE || cost < bestCost) {
                bestCost = cost;
                best[0] = a;
                best[1] = b;
                best[2] = c;
                best[3] = d;
            }
        }

        private long cost(int heap, int n) {
            return n < 1 ? 0 : spreads[heap] * (EVEN / n);
        }
    }

    /** How the CROWD is cut into BANDS. */
    private static final class Cutting {
        private static final int ENDS = MOST_NAMES + 1;

        /** Where in the order of SIZES each NAME stands. */
        private final int[] place = new int[MOST_NAMES];
        /** Of the NAMES ahead of each place. */
        private final int[] worths = new int[ENDS];
        private final int[] squares = new int[ENDS];
        /** For k BANDS from a place on: the least sum, and the first BAND's NAMES. */
        private final int[] least = new int[ENDS * ENDS];
        private final int[] first = new int[ENDS * ENDS];

        int leastOf(int k, int from) {
            return least[k * ENDS + from];
        }

        void cut(Crowd people, int k) {
            order(people);
            for (int from = 0; from < people.names; from++) {
                choose(1, from, people.names - from, cost(from, people.names));
            }
            for (int some = 2; some <= k; some++) {
                for (int from = 0; from <= people.names - some; from++) {
                    cutFirst(some, from, people.names - some + 1);
                }
            }
        }

        private void order(Crowd people) {
            for (int i = 0; i < people.names; i++) {
                place[i] = 0;
                for (int j = 0; j < people.names; j++) {
                    int more = people.size[i] - people.size[j];
                    if (more > 0 || more == 0 && j < i) {
                        place[i]++;
                    }
                }
                worths[place[i] + 1] = people.worth[i];
            }
            for (int end = 1; end <= people.names; end++) {
                squares[end] = squares[end - 1] + worths[end] * worths[end];
                worths[end] += worths[end - 1];
            }
        }

        private int cost(int from, int end) {
            int all = worths[end] - worths[from];
            return (end - from) * (squares[end] - squares[from]) - all * all;
        }

        /** The shortest first BAND is tried first, so that it wins of several alike. */
        private void cutFirst(int k, int from, int lastEnd) {
            choose(k, from, 1, cost(from, from + 1) + leastOf(k - 1, from + 1));
            for (int end = from + 2; end <= lastEnd; end++) {
                int sum = cost(from, end) + leastOf(k - 1, end);
                if (sum < leastOf(k, from)) {
                    choose(k, from, end - from, sum);
                }
            }
        }

        private void choose(int k, int from, int names, int sum) {
            least[k * ENDS + from] = sum;
            first[k * ENDS + from] = names;
        }

        int bandOf(int k, int name) {
            int end = 0;
            for (int i = 0; i < k; i++) {
                end += first[(k - i) * ENDS + end];
                if (place[name] < end) {
                    return i;
                }
            }
            return NONE;
        }
    }
}
