/**
 * A bench for draws of sets in which likes stay apart. SETS are bits of an int, chances are whole
 * SHARES of a sum, and all answers are exact. No call throws or makes an object: all rows are made
 * by the constructor and used again.
 */
public final class ShunLots {
    public static final int NONE = -1;

    private static final int NO_NUMBER = -10;
    private static final int LEAST_THINGS = 2;
    private static final int MOST_THINGS = 6;
    private static final int PLACES = 6;
    private static final int MOST_ENTRY = 5;
    private static final int LEAST_POSTS = 2;
    private static final int MOST_POSTS = 5;
    private static final int MOST_WEIGHT = 9;
    private static final long MOST_SHARE = 4000000L;
    private static final long DRAW_FACTOR = 6364136223846793005L;
    private static final long DRAW_STEP = 1442695040888963407L;
    private static final int DRAW_SHIFT = 33;
    // Numbers of 63 bits have their common divisor after some 91 steps at most.
    private static final int DIVISOR_STEPS = 100;

    private final int things;
    private final int sets;
    private final Table[] tables;
    private final Net net;
    private final Law[] laws;
    private final long[] handShares;
    // A LAW is worked out here first, so that one that can't be leaves its place as it was,
    // and so that a LAW may be made out of the one that stands in its own place.
    private final long[] draft;
    private final Square square;

    public ShunLots(int things) {
        this.things = Math.max(LEAST_THINGS, Math.min(MOST_THINGS, things));
        this.sets = 1 << this.things;
        this.tables = new Table[PLACES];
        this.laws = new Law[PLACES];
        for (int place = 0; place < PLACES; place++) {
            this.tables[place] = new Table(this.things);
            this.laws[place] = new Law(this.sets);
        }
        this.net = new Net(this.things);
        this.handShares = new long[this.sets];
        this.draft = new long[this.sets];
        this.square = new Square();
    }

    public boolean entry(int table, int i, int j, int v) {
        if (!isPlace(table) || !isThing(i) || !isThing(j) || !isAmong(v, -MOST_ENTRY, MOST_ENTRY)) {
            return false;
        }
        tables[table].put(i, j, v);
        return true;
    }

    public int told(int table, int i, int j) {
        if (!isPlace(table) || !isThing(i) || !isThing(j)) {
            return NO_NUMBER;
        }
        return tables[table].at(i, j);
    }

    public long worth(int table, int set) {
        if (!isPlace(table) || !isSet(set)) {
            return 0;
        }
        return tables[table].worthOf(set, 0, square);
    }

    public int why(int table) {
        if (!isPlace(table)) {
            return NONE;
        }
        return draftWorths(tables[table]);
    }

    public long whole(int table) {
        if (!isPlace(table)) {
            return 0;
        }
        return tables[table].worthOf(sets - 1, 1, square);
    }

    public boolean shun(int table, int l) {
        if (!isPlace(table) || !isPlace(l)) {
            return false;
        }
        return draftWorths(tables[table]) == NONE && settle(l);
    }

    public boolean edge(int i, int a, int b, int weight) {
        if (!isThing(i) || !isPost(a) || !isPost(b) || !isAmong(weight, 0, MOST_WEIGHT)) {
            return false;
        }
        net.put(i, a, b, weight);
        return true;
    }

    public long all(int p) {
        if (!isPosts(p)) {
            return 0;
        }
        return net.sumOfTrees(p, square);
    }

    public boolean trees(int p, int l) {
        if (!isPosts(p) || !isPlace(l)) {
            return false;
        }
        for (int set = 0; set < sets; set++) {
            draft[set] = net.isTree(set, p) ? net.productOf(set) : 0;
        }
        return settle(l);
    }

    public boolean tell(int set, int v) {
        if (!isSet(set) || v < 0 || v > MOST_SHARE) {
            return false;
        }
        handShares[set] = v;
        return true;
    }

    public boolean hand(int l) {
        if (!isPlace(l)) {
            return false;
        }
        System.arraycopy(handShares, 0, draft, 0, sets);
        return settle(l);
    }

    public boolean given(int l, int in, int out, int m) {
        Law law = lawAt(l);
        if (law == null || !isSet(in) || !isSet(out) || !isPlace(m)) {
            return false;
        }
        for (int set = 0; set < sets; set++) {
            draft[set] = fits(set, in, out) ? law.shares[set] : 0;
        }
        return settle(m);
    }

    public boolean thin(int l, int set, int m) {
        Law law = lawAt(l);
        if (law == null || !isSet(set) || !isPlace(m)) {
            return false;
        }
        System.arraycopy(law.shares, 0, draft, 0, sets);
        for (int i = 0; i < things; i++) {
            if (has(set, i)) {
                halveDraft(1 << i);
            }
        }
        return settle(m);
    }

    public boolean part(int l, int set, int m) {
        Law law = lawAt(l);
        if (law == null || !isSet(set) || !isPlace(m)) {
            return false;
        }
        for (int kept = 0; kept < sets; kept++) {
            draft[kept] = 0;
        }
        for (int drawn = 0; drawn < sets; drawn++) {
            draft[drawn & set] += law.shares[drawn];
        }
        return settle(m);
    }

    public boolean other(int l, int set, int m) {
        Law law = lawAt(l);
        if (law == null || !isSet(set) || !isPlace(m)) {
            return false;
        }
        for (int drawn = 0; drawn < sets; drawn++) {
            draft[drawn ^ set] = law.shares[drawn];
        }
        return settle(m);
    }

    public boolean mix(int l, int k, int a, int b, int m) {
        Law first = lawAt(l);
        Law second = lawAt(k);
        if (first == null || second == null || !isPlace(m)) {
            return false;
        }
        if (!isAmong(a, 1, MOST_WEIGHT) || !isAmong(b, 1, MOST_WEIGHT)) {
            return false;
        }
        // At most 2 * 9 * 4,000,000 * (64 * 4,000,000): far below the end of a long.
        long firstTimes = a * second.sum;
        long secondTimes = b * first.sum;
        for (int set = 0; set < sets; set++) {
            draft[set] = first.shares[set] * firstTimes + second.shares[set] * secondTimes;
        }
        return settle(m);
    }

    public long share(int l, int set) {
        Law law = lawAt(l);
        if (law == null || !isSet(set)) {
            return NONE;
        }
        return law.shares[set];
    }

    public long chance(int l, int set, int what) {
        Law law = lawAt(l);
        if (law == null || !isSet(set) || !isWhat(what)) {
            return NONE;
        }
        return lowest(law.shares[set], law.sum, what);
    }

    public long within(int l, int set, int what) {
        Law law = lawAt(l);
        if (law == null || !isSet(set) || !isWhat(what)) {
            return NONE;
        }
        return lowest(law.sumFitting(set, 0), law.sum, what);
    }

    public long out(int l, int set, int what) {
        Law law = lawAt(l);
        if (law == null || !isSet(set) || !isWhat(what)) {
            return NONE;
        }
        return lowest(law.sumFitting(0, set), law.sum, what);
    }

    public long size(int l, int k, int what) {
        Law law = lawAt(l);
        if (law == null || !isCount(k) || !isWhat(what)) {
            return NONE;
        }
        return lowest(law.sumOfSize(k), law.sum, what);
    }

    public long mean(int l, int what) {
        Law law = lawAt(l);
        if (law == null || !isWhat(what)) {
            return NONE;
        }
        return lowest(law.sumOfCounts(), law.sum, what);
    }

    public long spread(int l, int what) {
        Law law = lawAt(l);
        if (law == null || !isWhat(what)) {
            return NONE;
        }
        // The sum of squares is at most 36 * 256,000,000 and the sum 256,000,000: their product
        // stays below the end of a long.
        long counts = law.sumOfCounts();
        long upper = law.sumOfSquares() * law.sum - counts * counts;
        return lowest(upper, law.sum * law.sum, what);
    }

    public long both(int l, int i, int j, int what) {
        Law law = lawAt(l);
        if (law == null || !isThing(i) || !isThing(j) || i == j || !isWhat(what)) {
            return 0;
        }
        return lowest(law.apartness(1 << i, 1 << j), law.sum * law.sum, what);
    }

    public int shuns(int l) {
        Law law = lawAt(l);
        if (law == null) {
            return NONE;
        }
        for (int i = 1; i < things; i++) {
            for (int j = 0; j < i; j++) {
                if (law.apartness(1 << i, 1 << j) < 0) {
                    return 0;
                }
            }
        }
        return 1;
    }

    public int rises(int l) {
        Law law = lawAt(l);
        if (law == null) {
            return NONE;
        }
        boolean falling = false;
        long before = law.sumOfSize(0);
        for (int k = 1; k <= things; k++) {
            long now = law.sumOfSize(k);
            if (falling && now > before) {
                return 0;
            }
            if (now < before) {
                falling = true;
            }
            before = now;
        }
        return 1;
    }

    public int greatest(int l) {
        Law law = lawAt(l);
        if (law == null) {
            return NONE;
        }
        int best = 0;
        for (int set = 1; set < sets; set++) {
            if (law.shares[set] > law.shares[best]) {
                best = set;
            }
        }
        return best;
    }

    public int greedy(int l, int k) {
        Law law = lawAt(l);
        if (law == null || !isCount(k)) {
            return NONE;
        }
        int taken = 0;
        for (int count = 0; count < k; count++) {
            taken = withBestThing(law, taken);
        }
        return taken;
    }

    public int same(int l, int k) {
        Law first = lawAt(l);
        Law second = lawAt(k);
        if (first == null || second == null) {
            return NONE;
        }
        // SHARES have no common divisor, so like chances mean like SHARES.
        for (int set = 0; set < sets; set++) {
            if (first.shares[set] != second.shares[set]) {
                return 0;
            }
        }
        return 1;
    }

    public int draw(int l, long seed) {
        Law law = lawAt(l);
        if (law == null) {
            return NONE;
        }
        long x = seed;
        int taken = 0;
        for (int i = 0; i < things; i++) {
            int thing = 1 << i;
            int passedOver = (thing - 1) & ~taken;
            long open = law.sumFitting(taken, passedOver);
            long having = law.sumFitting(taken | thing, passedOver);
            x = x * DRAW_FACTOR + DRAW_STEP;
            if (open > 0 && (x >>> DRAW_SHIFT) % open < having) {
                taken |= thing;
            }
        }
        return taken;
    }

    private static boolean isAmong(int v, int least, int most) {
        return v >= least && v <= most;
    }

    private static boolean isPlace(int place) {
        return isAmong(place, 0, PLACES - 1);
    }

    private static boolean isPost(int post) {
        return isAmong(post, 0, MOST_POSTS - 1);
    }

    private static boolean isPosts(int p) {
        return isAmong(p, LEAST_POSTS, MOST_POSTS);
    }

    private static boolean isWhat(int what) {
        return isAmong(what, 0, 1);
    }

    private boolean isThing(int i) {
        return isAmong(i, 0, things - 1);
    }

    private boolean isCount(int k) {
        return isAmong(k, 0, things);
    }

    private boolean isSet(int set) {
        return isAmong(set, 0, sets - 1);
    }

    /** The LAW at a place; null if there is no such place or no LAW stands there yet. */
    private Law lawAt(int place) {
        if (!isPlace(place) || !laws[place].made) {
            return null;
        }
        return laws[place];
    }

    /** Drafts a TABLE's WORTHS up to the first one below 0, whose SET it answers, or else NONE. */
    private int draftWorths(Table table) {
        for (int set = 0; set < sets; set++) {
            draft[set] = table.worthOf(set, 0, square);
            if (draft[set] < 0) {
                return set;
            }
        }
        return NONE;
    }

    /** Twice the drafted SHARES once a drawn THING is kept by halves: so they stay whole. */
    private void halveDraft(int thing) {
        for (int set = 0; set < sets; set++) {
            if ((set & thing) == 0) {
                draft[set] = 2 * draft[set] + draft[set | thing];
            }
        }
    }

    /** Makes the draft the LAW of a place, if it can be one. */
    private boolean settle(int place) {
        long divisor = 0;
        for (int set = 0; set < sets; set++) {
            divisor = commonDivisor(draft[set], divisor);
        }
        if (divisor < 1) {
            return false;
        }
        for (int set = 0; set < sets; set++) {
            draft[set] /= divisor;
            if (draft[set] > MOST_SHARE) {
                return false;
            }
        }
        laws[place].become(draft);
        return true;
    }

    /** A SET and the one THING more with which its SHARE is greatest, the least of several. */
    private int withBestThing(Law law, int taken) {
        int best = taken;
        for (int i = 0; i < things; i++) {
            int next = taken | (1 << i);
            if (next != taken && (best == taken || law.shares[next] > law.shares[best])) {
                best = next;
            }
        }
        return best;
    }

    private static boolean has(int set, int i) {
        return (set >> i & 1) != 0;
    }

    private static boolean fits(int set, int in, int out) {
        return (set & in) == in && (set & out) == 0;
    }

    /** One of the two numbers of a fraction in lowest terms. */
    private static long lowest(long upper, long lower, int what) {
        long divisor = commonDivisor(Math.abs(upper), lower);
        if (divisor < 1) {
            return NONE;
        }
        return what == 0 ? upper / divisor : lower / divisor;
    }

    /** Of two numbers that are not below 0; of 0 and another, the other. */
    private static long commonDivisor(long a, long b) {
        long divisor = a;
        long rest = b;
        for (int step = 0; step < DIVISOR_STEPS && rest != 0; step++) {
            long next = divisor % rest;
            divisor = rest;
            rest = next;
        }
        return divisor;
    }

    /** Rows and columns that are laid out anew for each determinant that is asked for. */
    private static final class Square {
        private final long[] cells = new long[MOST_THINGS * MOST_THINGS];
        private final long[] minors = new long[1 << MOST_THINGS];
        private int side;

        void begin(int newSide) {
            side = Math.max(0, Math.min(MOST_THINGS, newSide));
            for (int cell = 0; cell < cells.length; cell++) {
                cells[cell] = 0;
            }
        }

        /** What lies outside is passed over, so that a net's last post can be left out. */
        void add(int row, int column, long v) {
            if (isAmong(row, 0, side - 1) && isAmong(column, 0, side - 1)) {
                cells[row * MOST_THINGS + column] += v;
            }
        }

        /** By minors of the first rows over growing choices of columns: no division is needed. */
        long determinant() {
            minors[0] = 1;
            int every = (1 << side) - 1;
            for (int columns = 1; columns <= every; columns++) {
                minors[columns] = alongLastRow(columns);
            }
            return minors[every];
        }

        private long alongLastRow(int columns) {
            int start = (Integer.bitCount(columns) - 1) * MOST_THINGS;
            long sign = 1;
            long sum = 0;
            for (int column = side - 1; column >= 0; column--) {
                int bit = 1 << column;
                if ((columns & bit) != 0) {
                    sum += sign * cells[start + column] * minors[columns - bit];
                    sign = -sign;
                }
            }
            return sum;
        }
    }

    /** A number for each two THINGS, the same across its line. */
    private static final class Table {
        private final int width;
        private final int[] numbers;

        Table(int things) {
            width = things;
            numbers = new int[things * things];
        }

        void put(int i, int j, int v) {
            numbers[i * width + j] = v;
            numbers[j * width + i] = v;
        }

        int at(int i, int j) {
            return numbers[i * width + j];
        }

        /** The determinant of a SET's rows and columns, with so much more on the line. */
        long worthOf(int set, int more, Square square) {
            square.begin(Integer.bitCount(set));
            int row = 0;
            for (int i = 0; i < width; i++) {
                if (has(set, i)) {
                    layRow(i, row, set, square);
                    square.add(row, row, more);
                    row++;
                }
            }
            return square.determinant();
        }

        private void layRow(int i, int row, int set, Square square) {
            int column = 0;
            for (int j = 0; j < width; j++) {
                if (has(set, j)) {
                    square.add(row, column, at(i, j));
                    column++;
                }
            }
        }
    }

    /** An EDGE for each THING. */
    private static final class Net {
        private final int edges;
        private final int[] starts;
        private final int[] ends;
        private final int[] weights;

        Net(int things) {
            edges = things;
            starts = new int[things];
            ends = new int[things];
            weights = new int[things];
        }

        void put(int i, int a, int b, int weight) {
            starts[i] = a;
            ends[i] = b;
            weights[i] = weight;
        }

        /** By Kirchhoff's square of p posts without the last one's row and column. */
        long sumOfTrees(int p, Square square) {
            square.begin(p - 1);
            for (int i = 0; i < edges; i++) {
                if (starts[i] < p && ends[i] < p) {
                    square.add(starts[i], starts[i], weights[i]);
                    square.add(ends[i], ends[i], weights[i]);
                    square.add(starts[i], ends[i], -weights[i]);
                    square.add(ends[i], starts[i], -weights[i]);
                }
            }
            return square.determinant();
        }

        /**
         * EDGES that join p posts and are one fewer than these join them in just one way. An EDGE
         * with a post beyond either joins that one too, or leaves too few EDGES for p posts.
         */
        boolean isTree(int set, int p) {
            if (Integer.bitCount(set) != p - 1) {
                return false;
            }
            int joined = 1;
            for (int round = 1; round < p; round++) {
                joined = joinedOnce(joined, set);
            }
            return joined == (1 << p) - 1;
        }

        private int joinedOnce(int joined, int set) {
            int now = joined;
            for (int i = 0; i < edges; i++) {
                int posts = (1 << starts[i]) | (1 << ends[i]);
                if (has(set, i) && (now & posts) != 0) {
                    now |= posts;
                }
            }
            return now;
        }

        long productOf(int set) {
            long product = 1;
            for (int i = 0; i < edges; i++) {
                if (has(set, i)) {
                    product *= weights[i];
                }
            }
            return product;
        }
    }

    /** SHARES and their sum; the rows stand from the start, a LAW only once it was made. */
    private static final class Law {
        final long[] shares;
        long sum;
        boolean made;

        Law(int sets) {
            shares = new long[sets];
        }

        void become(long[] newShares) {
            sum = 0;
            for (int set = 0; set < shares.length && set < newShares.length; set++) {
                shares[set] = newShares[set];
                sum += newShares[set];
            }
            made = true;
        }

        /** The SHARES of all SETS that have all of in and none of out. */
        long sumFitting(int in, int out) {
            long fitting = 0;
            for (int set = 0; set < shares.length; set++) {
                if (fits(set, in, out)) {
                    fitting += shares[set];
                }
            }
            return fitting;
        }

        long sumOfSize(int k) {
            long sized = 0;
            for (int set = 0; set < shares.length; set++) {
                if (Integer.bitCount(set) == k) {
                    sized += shares[set];
                }
            }
            return sized;
        }

        long sumOfCounts() {
            long counts = 0;
            for (int set = 0; set < shares.length; set++) {
                counts += Integer.bitCount(set) * shares[set];
            }
            return counts;
        }

        long sumOfSquares() {
            long squares = 0;
            for (int set = 0; set < shares.length; set++) {
                long count = Integer.bitCount(set);
                squares += count * count * shares[set];
            }
            return squares;
        }

        /** The chance of each of two THINGS, multiplied, less that of both: times the sum's square. */
        long apartness(int thing, int thing2) {
            return sumFitting(thing, 0) * sumFitting(thing2, 0) - sumFitting(thing | thing2, 0) * sum;
        }
    }
}
