import java.math.BigInteger;
import java.util.Random;

/**
 * Long runs of calls, right and wrong ones, whose answers are held against a slow bench that is
 * written another way: determinants by permutations, big numbers, and sums over single draws.
 */
public final class RandomRunsTest {
    private static final int RUNS = 3000;
    private static final int CALLS = 512;
    private static final int[] FAR = {-1, Integer.MIN_VALUE, Integer.MAX_VALUE, 64, 7};

    private static int wrong = 0;
    private static final int[] madeBy = new int[32];

    public static void main(String[] args) {
        for (int run = 0; run < RUNS && wrong < 20; run++) {
            new Run(run).go();
        }
        int[] makers = {7, 10, 12, 13, 14, 15, 16, 17};
        for (int maker : makers) {
            if (madeBy[maker] < 500) {
                wrong++;
                System.out.println("the runs are too poor: promise " + maker + " made " + madeBy[maker] + " laws");
            }
        }
        System.out.println(wrong == 0 ? "both benches agree" : wrong + " answers are not as due");
        if (wrong != 0) {
            System.exit(1);
        }
    }

    private static final class Run {
        final int number;
        final Random random;
        final int asked;
        final int n;
        final ShunLots quick;
        final SlowBench slow;
        int made = 0;

        Run(int number) {
            this.number = number;
            random = new Random(number);
            asked = number % 9 - 1;
            quick = new ShunLots(asked);
            slow = new SlowBench(asked);
            n = slow.n;
        }

        int upTo(int most) {
            return random.nextInt(most + 1);
        }

        /** A number 0 to most, now and then one just or far outside. */
        int about(int most) {
            int kind = random.nextInt(60);
            return kind == 0 ? most + 1 : kind == 1 ? FAR[random.nextInt(FAR.length)] : upTo(most);
        }

        int place() {
            return about(5);
        }

        int set() {
            return about((1 << n) - 1);
        }

        void due(String call, long got, long want, int... arguments) {
            made++;
            StringBuilder text = new StringBuilder(call);
            for (int argument : arguments) {
                text.append(' ').append(argument);
            }
            if (got != want && wrong < 20) {
                wrong++;
                System.out.println("run " + number + " of " + asked + " things, call " + made + ": " + text
                    + " answered " + got + ", due is " + want);
            }
        }

        void due(String call, boolean got, boolean want, int... arguments) {
            due(call, got ? 1 : 0, want ? 1 : 0, arguments);
        }

        void dueLaw(int promise, boolean got, boolean want, int... arguments) {
            due("maker of promise " + promise, got, want, arguments);
            if (got) {
                madeBy[promise]++;
            }
        }

        void go() {
            while (made < CALLS - 50 && wrong < 20) {
                int kind = random.nextInt(10);
                if (kind == 0) {
                    layTable();
                } else if (kind == 1) {
                    layNet();
                } else if (kind == 2) {
                    tellShares();
                } else if (kind < 5) {
                    makeLaw();
                } else {
                    ask();
                }
            }
        }

        void putEntry(int table, int i, int j, int v) {
            due("entry", quick.entry(table, i, j, v), slow.entry(table, i, j, v), table, i, j, v);
        }

        void layTable() {
            int table = place();
            if (random.nextInt(3) == 0) {
                putEntry(table, about(n - 1), about(n - 1), about(11) - 5);
                return;
            }
            int[] rows = new int[n];
            int[] more = new int[n];
            for (int i = 0; i < n; i++) {
                rows[i] = random.nextInt(3) - 1;
                more[i] = random.nextInt(3) - 1;
            }
            for (int i = 0; i < n; i++) {
                for (int j = 0; j <= i; j++) {
                    int v = rows[i] * rows[j] + more[i] * more[j];
                    putEntry(table, i, j, i == j ? v + random.nextInt(4) : v);
                }
            }
        }

        void layNet() {
            for (int i = 0; i < n; i++) {
                int thing = about(n - 1);
                int a = about(random.nextInt(4) + 1);
                int b = about(random.nextInt(2) + 3);
                int weight = about(9);
                due("edge", quick.edge(thing, a, b, weight), slow.edge(thing, a, b, weight), thing, a, b, weight);
            }
        }

        void tellShares() {
            int most = new int[] {1, 6, 300, 4000000}[random.nextInt(4)];
            int count = random.nextInt(1 << n) + 1;
            for (int t = 0; t < Math.min(count, 24); t++) {
                int set = set();
                int v = random.nextInt(4) == 0 ? 0 : most - random.nextInt(Math.min(most, 7) + 1);
                v = random.nextInt(40) == 0 ? FAR[random.nextInt(3)] : random.nextInt(60) == 0 ? 4000001 : v;
                due("tell", quick.tell(set, v), slow.tell(set, v), set, v);
            }
        }

        void makeLaw() {
            int l = place();
            int m = place();
            int set = set();
            switch (random.nextInt(9)) {
                case 0 -> {
                    int p = random.nextInt(3) == 0 ? about(5) : random.nextInt(4) + 2;
                    dueLaw(10, quick.trees(p, m), slow.trees(p, m), p, m);
                }
                case 1 -> dueLaw(7, quick.shun(l, m), slow.shun(l, m), l, m);
                case 2, 3 -> dueLaw(12, quick.hand(m), slow.hand(m), m);
                case 4 -> {
                    int in = set & upTo(63);
                    int out = upTo(63) & upTo((1 << n) - 1) & (random.nextInt(9) == 0 ? -1 : ~in);
                    dueLaw(13, quick.given(l, in, out, m), slow.given(l, in, out, m), l, in, out, m);
                }
                case 5 -> dueLaw(14, quick.thin(l, set, m), slow.thin(l, set, m), l, set, m);
                case 6 -> dueLaw(15, quick.part(l, set, m), slow.part(l, set, m), l, set, m);
                case 7 -> dueLaw(16, quick.other(l, set, m), slow.other(l, set, m), l, set, m);
                default -> {
                    int k = place();
                    int a = about(9);
                    int b = about(9);
                    dueLaw(17, quick.mix(l, k, a, b, m), slow.mix(l, k, a, b, m), l, k, a, b, m);
                }
            }
        }

        void ask() {
            int l = place();
            int set = set();
            int what = about(1);
            switch (random.nextInt(10)) {
                case 0 -> askTable(l, set);
                case 1 -> {
                    int p = about(5);
                    due("all", quick.all(p), slow.all(p), p);
                }
                case 2 -> {
                    due("share", quick.share(l, set), slow.share(l, set), l, set);
                    due("chance", quick.chance(l, set, what), slow.chance(l, set, what), l, set, what);
                }
                case 3 -> {
                    due("within", quick.within(l, set, what), slow.within(l, set, what), l, set, what);
                    due("out", quick.out(l, set, what), slow.out(l, set, what), l, set, what);
                }
                case 4 -> {
                    int k = about(n);
                    due("size", quick.size(l, k, what), slow.size(l, k, what), l, k, what);
                    due("greedy", quick.greedy(l, k), slow.greedy(l, k), l, k);
                }
                case 5 -> {
                    due("mean", quick.mean(l, what), slow.mean(l, what), l, what);
                    due("spread", quick.spread(l, what), slow.spread(l, what), l, what);
                }
                case 6 -> {
                    int i = about(n - 1);
                    int j = about(n - 1);
                    due("both", quick.both(l, i, j, what), slow.both(l, i, j, what), l, i, j, what);
                    due("shuns", quick.shuns(l), slow.shuns(l), l);
                }
                case 7 -> {
                    due("rises", quick.rises(l), slow.rises(l), l);
                    due("greatest", quick.greatest(l), slow.greatest(l), l);
                }
                case 8 -> {
                    int k = place();
                    due("same", quick.same(l, k), slow.same(l, k), l, k);
                }
                default -> {
                    long seed = random.nextInt(5) == 0 ? random.nextInt(3) - 1 : random.nextLong();
                    due("draw by " + seed, quick.draw(l, seed), slow.draw(l, seed), l);
                }
            }
        }

        void askTable(int table, int set) {
            int i = about(n - 1);
            int j = about(n - 1);
            due("told", quick.told(table, i, j), slow.told(table, i, j), table, i, j);
            due("worth", quick.worth(table, set), slow.worth(table, set), table, set);
            due("why", quick.why(table), slow.why(table), table);
            due("whole", quick.whole(table), slow.whole(table), table);
        }
    }

    /** A fraction that is never shortened before it is asked for. */
    private static final class Fraction {
        final BigInteger upper;
        final BigInteger lower;

        Fraction(BigInteger upper, BigInteger lower) {
            this.upper = upper;
            this.lower = lower;
        }

        Fraction plus(Fraction f) {
            return new Fraction(upper.multiply(f.lower).add(f.upper.multiply(lower)), lower.multiply(f.lower));
        }

        Fraction times(Fraction f) {
            return new Fraction(upper.multiply(f.upper), lower.multiply(f.lower));
        }

        Fraction less(Fraction f) {
            return plus(new Fraction(f.upper.negate(), f.lower));
        }

        long tell(int what) {
            BigInteger divisor = upper.gcd(lower);
            return (what == 0 ? upper : lower).divide(divisor).longValueExact();
        }
    }

    private static final class SlowBench {
        final int n;
        final int[][][] tables = new int[6][6][6];
        final int[][] edges = new int[6][3];
        final BigInteger[] hand = new BigInteger[64];
        final BigInteger[][] laws = new BigInteger[6][];

        SlowBench(int things) {
            n = things < 2 ? 2 : things > 6 ? 6 : things;
            java.util.Arrays.fill(hand, BigInteger.ZERO);
        }

        boolean in(int v, int end) {
            return 0 <= v && v < end;
        }

        boolean isSet(int... sets) {
            for (int set : sets) {
                if (!in(set, 1 << n)) {
                    return false;
                }
            }
            return true;
        }

        boolean law(int l) {
            return in(l, 6) && laws[l] != null;
        }

        boolean has(int set, int i) {
            return (set & 1 << i) != 0;
        }

        boolean entry(int table, int i, int j, int v) {
            if (!in(table, 6) || !in(i, n) || !in(j, n) || v < -5 || v > 5) {
                return false;
            }
            tables[table][i][j] = v;
            tables[table][j][i] = v;
            return true;
        }

        long told(int table, int i, int j) {
            return in(table, 6) && in(i, n) && in(j, n) ? tables[table][i][j] : -10;
        }

        /** Over all permutations of the THINGS of a SET, row by row. */
        long permuted(int[][] numbers, int set, int row, int used) {
            while (row < 6 && !has(set, row)) {
                row++;
            }
            if (row == 6) {
                return 1;
            }
            long sum = 0;
            for (int column = 0; column < 6; column++) {
                if (has(set, column) && !has(used, column)) {
                    int turned = Integer.bitCount(used >> column);
                    long term = numbers[row][column] * permuted(numbers, set, row + 1, used | 1 << column);
                    sum += turned % 2 == 0 ? term : -term;
                }
            }
            return sum;
        }

        long worth(int table, int set) {
            return in(table, 6) && isSet(set) ? permuted(tables[table], set, 0, 0) : 0;
        }

        long why(int table) {
            for (int set = 0; in(table, 6) && set < 1 << n; set++) {
                if (worth(table, set) < 0) {
                    return set;
                }
            }
            return -1;
        }

        /** A TABLE with ones more on its line is worth the sum of all its parts. */
        long whole(int table) {
            long sum = 0;
            for (int set = 0; in(table, 6) && set < 1 << n; set++) {
                sum += worth(table, set);
            }
            return sum;
        }

        BigInteger[] empty() {
            BigInteger[] shares = new BigInteger[1 << n];
            java.util.Arrays.fill(shares, BigInteger.ZERO);
            return shares;
        }

        boolean make(BigInteger[] shares, int m) {
            BigInteger divisor = BigInteger.ZERO;
            for (BigInteger share : shares) {
                divisor = divisor.gcd(share);
            }
            if (divisor.signum() == 0) {
                return false;
            }
            BigInteger[] least = empty();
            for (int set = 0; set < shares.length; set++) {
                least[set] = shares[set].divide(divisor);
                if (least[set].compareTo(BigInteger.valueOf(4000000)) > 0) {
                    return false;
                }
            }
            laws[m] = least;
            return true;
        }

        boolean shun(int table, int m) {
            if (!in(table, 6) || !in(m, 6) || why(table) != -1) {
                return false;
            }
            BigInteger[] shares = empty();
            for (int set = 0; set < shares.length; set++) {
                shares[set] = BigInteger.valueOf(worth(table, set));
            }
            return make(shares, m);
        }

        boolean edge(int i, int a, int b, int weight) {
            if (!in(i, n) || !in(a, 5) || !in(b, 5) || !in(weight, 10)) {
                return false;
            }
            edges[i] = new int[] {a, b, weight};
            return true;
        }

        /** The product of a TREE's weights, 0 of what is none: groups of posts are put together. */
        long treeProduct(int set, int p) {
            int[] group = {0, 1, 2, 3, 4};
            int groups = p;
            long product = 1;
            for (int i = 0; i < n; i++) {
                if (has(set, i)) {
                    int a = edges[i][0];
                    int b = edges[i][1];
                    if (a >= p || b >= p || group[a] == group[b]) {
                        return 0;
                    }
                    int gone = group[a];
                    for (int post = 0; post < 5; post++) {
                        if (group[post] == gone) {
                            group[post] = group[b];
                        }
                    }
                    groups--;
                    product *= edges[i][2];
                }
            }
            return groups == 1 ? product : 0;
        }

        long all(int p) {
            long sum = 0;
            for (int set = 0; p >= 2 && p <= 5 && set < 1 << n; set++) {
                sum += treeProduct(set, p);
            }
            return sum;
        }

        boolean trees(int p, int m) {
            if (p < 2 || p > 5 || !in(m, 6)) {
                return false;
            }
            BigInteger[] shares = empty();
            for (int set = 0; set < shares.length; set++) {
                shares[set] = BigInteger.valueOf(treeProduct(set, p));
            }
            return make(shares, m);
        }

        boolean tell(int set, int v) {
            if (!isSet(set) || !in(v, 4000001)) {
                return false;
            }
            hand[set] = BigInteger.valueOf(v);
            return true;
        }

        boolean hand(int m) {
            return in(m, 6) && make(java.util.Arrays.copyOf(hand, 1 << n), m);
        }

        boolean given(int l, int in, int out, int m) {
            if (!law(l) || !isSet(in, out) || !in(m, 6)) {
                return false;
            }
            BigInteger[] shares = empty();
            for (int set = 0; set < shares.length; set++) {
                if ((set | in) == set && (set & ~out) == set) {
                    shares[set] = laws[l][set];
                }
            }
            return make(shares, m);
        }

        /** Each drawn SET with each choice of those of its THINGS that are lost. */
        boolean thin(int l, int set, int m) {
            if (!law(l) || !isSet(set) || !in(m, 6)) {
                return false;
            }
            BigInteger[] shares = empty();
            for (int drawn = 0; drawn < shares.length; drawn++) {
                int atStake = drawn & set;
                for (int lost = 0; lost < shares.length; lost++) {
                    if ((lost & atStake) == lost) {
                        BigInteger weight = laws[l][drawn].shiftLeft(6 - Integer.bitCount(atStake));
                        shares[drawn - lost] = shares[drawn - lost].add(weight);
                    }
                }
            }
            return make(shares, m);
        }

        boolean part(int l, int set, int m) {
            if (!law(l) || !isSet(set) || !in(m, 6)) {
                return false;
            }
            BigInteger[] shares = empty();
            for (int kept = 0; kept < shares.length; kept++) {
                for (int drawn = 0; drawn < shares.length; drawn++) {
                    if ((drawn & set) == kept) {
                        shares[kept] = shares[kept].add(laws[l][drawn]);
                    }
                }
            }
            return make(shares, m);
        }

        boolean other(int l, int set, int m) {
            if (!law(l) || !isSet(set) || !in(m, 6)) {
                return false;
            }
            BigInteger[] shares = empty();
            for (int drawn = 0; drawn < shares.length; drawn++) {
                shares[(set & ~drawn) | (drawn & ~set)] = laws[l][drawn];
            }
            return make(shares, m);
        }

        boolean mix(int l, int k, int a, int b, int m) {
            if (!law(l) || !law(k) || a < 1 || a > 9 || b < 1 || b > 9 || !in(m, 6)) {
                return false;
            }
            BigInteger[] shares = empty();
            BigInteger left = sum(l).multiply(BigInteger.valueOf(b));
            BigInteger right = sum(k).multiply(BigInteger.valueOf(a));
            for (int set = 0; set < shares.length; set++) {
                shares[set] = laws[l][set].multiply(right).add(laws[k][set].multiply(left));
            }
            return make(shares, m);
        }

        BigInteger sum(int l) {
            BigInteger sum = BigInteger.ZERO;
            for (BigInteger share : laws[l]) {
                sum = sum.add(share);
            }
            return sum;
        }

        long share(int l, int set) {
            return law(l) && isSet(set) ? laws[l][set].longValueExact() : -1;
        }

        Fraction chanceOf(int l, int set) {
            return new Fraction(laws[l][set], sum(l));
        }

        long chance(int l, int set, int what) {
            return law(l) && isSet(set) && in(what, 2) ? chanceOf(l, set).tell(what) : -1;
        }

        /** The chance of all SETS that have just the THINGS of like among those of mask. */
        Fraction matching(int l, int mask, int like) {
            BigInteger upper = BigInteger.ZERO;
            for (int set = 0; set < 1 << n; set++) {
                if ((set & mask) == like) {
                    upper = upper.add(laws[l][set]);
                }
            }
            return new Fraction(upper, sum(l));
        }

        long within(int l, int set, int what) {
            return law(l) && isSet(set) && in(what, 2) ? matching(l, set, set).tell(what) : -1;
        }

        long out(int l, int set, int what) {
            return law(l) && isSet(set) && in(what, 2) ? matching(l, set, 0).tell(what) : -1;
        }

        Fraction sizeOf(int l, int k) {
            BigInteger upper = BigInteger.ZERO;
            for (int set = 0; set < 1 << n; set++) {
                if (Integer.bitCount(set) == k) {
                    upper = upper.add(laws[l][set]);
                }
            }
            return new Fraction(upper, sum(l));
        }

        long size(int l, int k, int what) {
            return law(l) && in(k, n + 1) && in(what, 2) ? sizeOf(l, k).tell(what) : -1;
        }

        /** By sizes, where the bench sums over SETS. */
        Fraction moment(int l, int power) {
            Fraction moment = new Fraction(BigInteger.ZERO, BigInteger.ONE);
            for (int k = 0; k <= n; k++) {
                Fraction weight = new Fraction(BigInteger.valueOf(k).pow(power), BigInteger.ONE);
                moment = moment.plus(sizeOf(l, k).times(weight));
            }
            return moment;
        }

        long mean(int l, int what) {
            return law(l) && in(what, 2) ? moment(l, 1).tell(what) : -1;
        }

        long spread(int l, int what) {
            if (!law(l) || !in(what, 2)) {
                return -1;
            }
            Fraction mean = moment(l, 1);
            return moment(l, 2).less(mean.times(mean)).tell(what);
        }

        Fraction bothOf(int l, int i, int j) {
            int one = 1 << i;
            int two = 1 << j;
            Fraction apart = matching(l, one, one).times(matching(l, two, two));
            return apart.less(matching(l, one | two, one | two));
        }

        long both(int l, int i, int j, int what) {
            return law(l) && in(i, n) && in(j, n) && i != j && in(what, 2) ? bothOf(l, i, j).tell(what) : 0;
        }

        long shuns(int l) {
            if (!law(l)) {
                return -1;
            }
            boolean every = true;
            for (int i = 0; i < n; i++) {
                for (int j = 0; j < n; j++) {
                    every &= i == j || bothOf(l, i, j).upper.signum() >= 0;
                }
            }
            return every ? 1 : 0;
        }

        /** Each size is tried as the top. */
        long rises(int l) {
            if (!law(l)) {
                return -1;
            }
            for (int top = 0; top <= n; top++) {
                boolean fine = true;
                for (int k = 0; k < n; k++) {
                    int step = sizeOf(l, k + 1).less(sizeOf(l, k)).upper.signum();
                    fine &= k < top ? step >= 0 : step <= 0;
                }
                if (fine) {
                    return 1;
                }
            }
            return 0;
        }

        long greatest(int l) {
            if (!law(l)) {
                return -1;
            }
            int best = (1 << n) - 1;
            for (int set = best; set >= 0; set--) {
                best = laws[l][set].compareTo(laws[l][best]) >= 0 ? set : best;
            }
            return best;
        }

        long greedy(int l, int k) {
            if (!law(l) || !in(k, n + 1)) {
                return -1;
            }
            int set = 0;
            for (int count = 0; count < k; count++) {
                int best = -1;
                for (int i = n - 1; i >= 0; i--) {
                    if (!has(set, i) && (best < 0 || laws[l][set | 1 << i].compareTo(laws[l][set | 1 << best]) >= 0)) {
                        best = i;
                    }
                }
                set |= 1 << best;
            }
            return set;
        }

        long same(int l, int k) {
            if (!law(l) || !law(k)) {
                return -1;
            }
            for (int set = 0; set < 1 << n; set++) {
                if (chanceOf(l, set).less(chanceOf(k, set)).upper.signum() != 0) {
                    return 0;
                }
            }
            return 1;
        }

        long draw(int l, long seed) {
            if (!law(l)) {
                return -1;
            }
            BigInteger wrap = BigInteger.ONE.shiftLeft(64);
            BigInteger x = BigInteger.valueOf(seed).mod(wrap);
            int taken = 0;
            for (int i = 0; i < n; i++) {
                int ahead = (1 << i) - 1;
                BigInteger a = matching(l, ahead, taken).upper;
                BigInteger b = matching(l, ahead | 1 << i, taken | 1 << i).upper;
                x = x.multiply(new BigInteger("6364136223846793005"));
                x = x.add(new BigInteger("1442695040888963407")).mod(wrap);
                taken |= x.shiftRight(33).mod(a).compareTo(b) < 0 ? 1 << i : 0;
            }
            return taken;
        }
    }
}
