import java.math.BigInteger;
import java.nio.file.Files;
import java.nio.file.Path;
import java.util.Arrays;

/**
 * For each sentence of the document that names a boundary case a test of its own, under that
 * sentence's words. What is refused for an argument outside, or because a LAW can't be, and that
 * nothing is done then, is in RefusalsTest too, argument by argument.
 */
public final class BoundariesTest {
    private static final int LOW = Integer.MIN_VALUE;
    private static final int HIGH = Integer.MAX_VALUE;
    private static final int GREAT = 4000000;
    private static final int[] NO_PLACES = {-1, 6, LOW, HIGH};
    private static final Path DOCUMENT = Path.of("../shared/DOC.md");
    private static final BigInteger WRAP = BigInteger.ONE.shiftLeft(64);
    private static final BigInteger FACTOR = new BigInteger("6364136223846793005");
    private static final BigInteger STEP = new BigInteger("1442695040888963407");

    private static String document = "";
    private static String sentence = "";
    private static int wrong = 0;
    private static final int[] testsOf = new int[32];

    private static void due(String call, long got, long want) {
        if (got != want) {
            wrong++;
            System.out.println("\"" + sentence + "\": " + call + " answered " + got + ", due is " + want);
        }
    }

    private static void due(String call, boolean got, boolean want) {
        due(call, got ? 1 : 0, want ? 1 : 0);
    }

    private static void dueFraction(String call, long upper, long lower, long wantUpper, long wantLower) {
        due(call + ", upper", upper, wantUpper);
        due(call + ", lower", lower, wantLower);
    }

    private static void dueShares(String call, ShunLots x, int l, long... shares) {
        for (int set = 0; set < shares.length; set++) {
            due(call + ", share of " + set, x.share(l, set), shares[set]);
        }
    }

    /** Promise 0 stands for the document's other parts. */
    private static void test(int promise, String words, Runnable test) {
        sentence = words;
        testsOf[promise]++;
        due("the document has this sentence", document.isEmpty() || document.contains(words), true);
        test.run();
    }

    private static ShunLots told(int things, int l, int... shares) {
        ShunLots x = new ShunLots(things);
        retell(x, things, l, shares);
        return x;
    }

    private static void retell(ShunLots x, int things, int l, int... shares) {
        for (int set = 0; set < 1 << things; set++) {
            due("tell", x.tell(set, set < shares.length ? shares[set] : 0), true);
        }
        due("hand", x.hand(l), true);
    }

    /** A LAW in place 0 whose sizes have these SHARES: of each size one SET. */
    private static ShunLots sized(int... shares) {
        ShunLots x = new ShunLots(shares.length - 1);
        for (int k = 0; k < shares.length; k++) {
            x.tell((1 << k) - 1, shares[k]);
        }
        x.hand(0);
        return x;
    }

    /** All SETS of 6 THINGS have the greatest SHARE, one has a SHARE less by 1. */
    private static ShunLots fullest(int lesser) {
        int[] shares = new int[64];
        Arrays.fill(shares, GREAT);
        shares[lesser] = GREAT - 1;
        return told(6, 0, shares);
    }

    // ---- the document's first part, and "Terms"

    private static void the512thCall() {
        ShunLots x = told(6, 0, 1, 2, 3);
        for (int call = 65; call < 511; call++) {
            due("call " + (call + 1), x.share(call % 6, 1), call % 6 == 0 ? 2 : -1);
        }
        due("the 512th call", x.share(0, 2), 3);
    }

    private static void things() {
        for (int n = 2; n <= 6; n++) {
            ShunLots x = new ShunLots(n);
            due("THING 0", x.told(0, 0, 0), 0);
            due("the last THING", x.told(0, n - 1, n - 1), 0);
            due("THING -1", x.told(0, -1, 0), -10);
            due("THING n", x.told(0, 0, n), -10);
        }
    }

    private static void sets() {
        for (int n = 2; n <= 6; n++) {
            ShunLots x = new ShunLots(n);
            for (int i = 0; i < n; i++) {
                x.entry(0, i, i, i % 5 + 1);
            }
            for (int i = 0; i < n; i++) {
                due("the bit of THING " + i, x.worth(0, 1 << i), i % 5 + 1);
            }
            due("the last SET", x.tell((1 << n) - 1, 1), true);
            due("a SET with a bit too many", x.tell(1 << n, 1), false);
            due("a SET with a bit too many and others", x.tell((1 << n) + 1, 1), false);
            due("a SET with the sign's bit", x.tell(LOW + 1, 1), false);
        }
    }

    private static void tablePlaces() {
        ShunLots x = new ShunLots(2);
        for (int table = 0; table < 6; table++) {
            due("entry", x.entry(table, 0, 0, table - 1), true);
        }
        for (int table = 0; table < 6; table++) {
            due("told of TABLE " + table, x.told(table, 0, 0), table - 1);
        }
        due("TABLE -1", x.entry(-1, 0, 0, 1), false);
        due("TABLE 6", x.entry(6, 0, 0, 1), false);
    }

    private static void tableNumbers() {
        ShunLots x = new ShunLots(6);
        for (int i = 0; i < 6; i++) {
            for (int j = 0; j <= i; j++) {
                due("5", x.entry(0, i, j, 5), true);
                due("told", x.told(0, i, j), 5);
                due("6", x.entry(0, i, j, 6), false);
                due("told", x.told(0, i, j), 5);
                due("-5", x.entry(0, i, j, -5), true);
                due("-6", x.entry(0, i, j, -6), false);
                due("told", x.told(0, i, j), -5);
            }
        }
    }

    private static void acrossTheLine() {
        for (int n = 2; n <= 6; n++) {
            ShunLots x = new ShunLots(n);
            x.entry(1, n - 1, 0, 4);
            due("across, after", x.told(1, 0, n - 1), 4);
            x.entry(1, 0, n - 1, -3);
            due("across, before", x.told(1, n - 1, 0), -3);
            x.entry(1, n - 1, n - 1, 2);
            due("on the line", x.told(1, n - 1, n - 1), 2);
            due("across is as it was", x.told(1, 0, n - 1), -3);
            due("the line's first is as it was", x.told(1, 0, 0), 0);
        }
    }

    private static void zerosAtFirst() {
        for (int n = 2; n <= 6; n++) {
            ShunLots x = new ShunLots(n);
            for (int table = 0; table < 6; table++) {
                for (int cell = 0; cell < n * n; cell++) {
                    due("told", x.told(table, cell / n, cell % n), 0);
                }
            }
        }
    }

    private static void emptyWorth() {
        for (int n = 2; n <= 6; n++) {
            ShunLots x = new ShunLots(n);
            due("of zeros", x.worth(0, 0), 1);
            x.entry(5, 0, 0, -5);
            due("of a TABLE below 0", x.worth(5, 0), 1);
        }
    }

    private static void determinants() {
        ShunLots x = new ShunLots(6);
        for (int i = 0; i < 6; i++) {
            for (int j = 0; j < i; j++) {
                x.entry(0, i, j, 5);
                x.entry(1, i, j, -5);
            }
            x.entry(0, i, i, -5);
            x.entry(1, i, i, -5);
            x.entry(2, i, 5 - i, 5);
        }
        // 5 J - 10 I has 20 once and -10 five times; 5 J's rows are all alike.
        due("all at the ends", x.worth(0, 63), -2000000);
        due("rows alike", x.worth(1, 63), 0);
        due("rows alike, two", x.worth(1, 40), 0);
        due("turned about", x.worth(2, 63), -15625);
        due("turned about, four", x.worth(2, 0b101101), 625);
        due("a row of zeros", x.worth(2, 0b111110), 0);
        due("one", x.worth(0, 32), -5);
        due("the last two", x.worth(0, 48), 0);
        due("a first 0 on the line", x.worth(2, 0b100001), -25);
    }

    private static void netPostsAndWeights() {
        for (int end = 1; end <= 4; end++) {
            ShunLots x = new ShunLots(6);
            for (int i = 0; i < 4; i++) {
                due("a line's EDGE", x.edge(i, i, i + 1, 1), true);
            }
            due("an EDGE at the ends", x.edge(5, 0, end, 9), true);
            due("the EDGE alone", x.all(2), end == 1 ? 10 : 1);
            due("a ring's TREES", x.all(5), 9 * end + 1);
            due("weight 0", x.edge(5, end, 0, 0), true);
            due("none of weight 0", x.all(5), 1);
            due("weight 10", x.edge(5, 0, end, 10), false);
            due("weight -1", x.edge(5, 0, end, -1), false);
            due("post 5", x.edge(5, 5, end, 9), false);
            due("post 5", x.edge(5, end, 5, 9), false);
            due("post -1", x.edge(5, -1, end, 9), false);
            due("post -1", x.edge(5, end, -1, 9), false);
            due("nothing done", x.all(5), 1);
        }
    }

    private static void netAtFirst() {
        for (int n = 2; n <= 6; n++) {
            ShunLots x = new ShunLots(n);
            for (int p = 2; p <= 5; p++) {
                due("all", x.all(p), 0);
                due("trees", x.trees(p, 0), false);
            }
        }
    }

    private static void joinedInOneWay() {
        ShunLots x = new ShunLots(6);
        x.edge(0, 0, 1, 1);
        x.edge(1, 0, 1, 2);
        x.edge(2, 1, 2, 3);
        x.edge(3, 2, 0, 4);
        x.edge(4, 2, 2, 5);
        x.edge(5, 3, 3, 6);
        due("three posts", x.trees(3, 0), true);
        for (int set = 0; set < 64; set++) {
            // two alike, a ring and a loop are none; what is left are two of 0 or 1, 2, 3
            long product = set == 5 ? 3 : set == 6 ? 6 : set == 9 ? 4 : set == 10 ? 8 : set == 12 ? 12 : 0;
            due("share of " + set, x.share(0, set), product);
        }
        due("the sum", x.all(3), 33);
        due("post 3 is not joined by its loop", x.trees(4, 0), false);
        due("post 3 is not joined by its loop", x.all(4), 0);
    }

    private static void postsAskedFor() {
        ShunLots x = new ShunLots(4);
        for (int i = 0; i < 4; i++) {
            x.edge(i, i, i + 1, i + 2);
        }
        long[] sums = {0, 0, 2, 6, 24, 120, 0};
        for (int p = 0; p <= 6; p++) {
            due("all of " + p, x.all(p), sums[p]);
            due("trees of " + p, x.trees(p, p % 6), sums[p] > 0);
        }
        for (int p = 2; p <= 5; p++) {
            due("the only TREE of " + p, x.share(p, (1 << (p - 1)) - 1), 1);
        }
    }

    private static void postBeyond() {
        for (int p = 2; p <= 4; p++) {
            for (int post = 0; post < p; post++) {
                postBeyond(p, p, post);
                postBeyond(p, post, p);
            }
        }
    }

    /** A line of p posts, and EDGES 4 and 5 by which its ends are joined to the post next to it. */
    private static void postBeyond(int p, int a, int b) {
        ShunLots x = new ShunLots(6);
        for (int i = 0; i + 1 < p; i++) {
            x.edge(i, i, i + 1, 2);
        }
        x.edge(4, a, b, 3);
        x.edge(5, p, p - 1, 5);
        due("trees", x.trees(p, 0), true);
        due("only the posts' own", x.share(0, (1 << (p - 1)) - 1), 1);
        due("no other", x.chance(0, (1 << (p - 1)) - 1, 1), 1);
        due("all", x.all(p), 1L << (p - 1));
        x.edge(0, 1, 0, 0);
        x.edge(4, 0, p, 3);
        due("by a post beyond none are joined", x.trees(p, 1), false);
        due("by a post beyond none are joined", x.all(p), 0);
        due("with that post they are", x.trees(p + 1, 1), true);
    }

    private static void twoPostsBeyond() {
        ShunLots x = new ShunLots(2);
        x.edge(0, 3, 4, 9);
        x.edge(1, 1, 0, 4);
        due("trees", x.trees(2, 0), true);
        dueShares("one EDGE alone", x, 0, 0, 0, 1, 0);
        due("an EDGE apart is no help", x.trees(3, 0), false);
    }

    private static void lawPlaces() {
        ShunLots x = new ShunLots(2);
        x.tell(0, 1);
        for (int l = 0; l < 6; l++) {
            x.tell(3, l + 2);
            due("hand", x.hand(l), true);
        }
        for (int l = 0; l < 6; l++) {
            due("each place its own", x.share(l, 3), l + 2);
        }
        for (int place : NO_PLACES) {
            due("no place", x.hand(place), false);
            due("no LAW", x.share(place, 0), -1);
        }
    }

    private static void notAllZero() {
        ShunLots x = new ShunLots(3);
        due("by hand", x.hand(0), false);
        due("of no EDGES", x.trees(2, 0), false);
        due("no LAW", x.share(0, 0), -1);
        x.tell(7, 1);
        due("one that is not 0", x.hand(0), true);
        due("given what can't be", x.given(0, 0, 4, 1), false);
        due("given what can't be", x.given(0, 0, 4, 0), false);
        due("no LAW", x.share(1, 7), -1);
        due("as it was", x.share(0, 7), 1);
    }

    private static void commonDivisor() {
        ShunLots x = told(2, 0, GREAT, GREAT, GREAT, GREAT);
        dueShares("by hand", x, 0, 1, 1, 1, 1);
        retell(x, 2, 0, 0, 0, 3999999);
        dueShares("one SET alone", x, 0, 0, 0, 1, 0);
        retell(x, 2, 0, 6, 10, 15, 0);
        dueShares("no divisor of all", x, 0, 6, 10, 15, 0);
        due("given", x.given(0, 0, 1, 1), true);
        dueShares("given", x, 1, 2, 0, 5, 0);
        due("part", x.part(0, 2, 1), true);
        dueShares("part", x, 1, 16, 0, 15, 0);
        retell(x, 2, 0, 3, 6, 2, 1);
        due("part", x.part(0, 2, 1), true);
        dueShares("part", x, 1, 3, 0, 1, 0);
        retell(x, 2, 0, 1, 2, 0, 0);
        due("thin", x.thin(0, 1, 1), true);
        dueShares("thin", x, 1, 2, 1, 0, 0);
        retell(x, 2, 2, 1, 0, 1, 0);
        due("mix", x.mix(0, 2, 9, 9, 1), true);
        dueShares("mix", x, 1, 5, 4, 3, 0);
        due("other", x.other(1, 3, 1), true);
        dueShares("other", x, 1, 0, 3, 4, 5);
        x.edge(0, 0, 1, 6);
        x.edge(1, 0, 1, 9);
        due("trees", x.trees(2, 1), true);
        dueShares("trees", x, 1, 0, 2, 3, 0);
        x.entry(0, 0, 0, 4);
        x.entry(0, 1, 1, 2);
        due("shun", x.shun(0, 1), true);
        dueShares("shun: the empty SET's WORTH is 1", x, 1, 1, 4, 2, 8);
    }

    private static void notAbove() {
        ShunLots x = told(3, 0, GREAT, 1);
        dueShares("by hand", x, 0, GREAT, 1);
        notAboveByPart(x);
        notAboveByThin(x);
        notAboveByMix(x);
    }

    private static void notAboveByPart(ShunLots x) {
        retell(x, 3, 0, GREAT - 1, 1, 1);
        due("a part with 4,000,000", x.part(0, 2, 1), true);
        dueShares("part", x, 1, GREAT, 0, 1, 0);
        retell(x, 3, 0, GREAT, 1, 1);
        due("a part with 4,000,001", x.part(0, 2, 1), false);
        retell(x, 3, 0, GREAT, GREAT, 1, 1);
        due("a part with 8,000,000 by 2", x.part(0, 2, 1), true);
        dueShares("part", x, 1, GREAT, 0, 1, 0);
        retell(x, 3, 0, GREAT, GREAT, 1, 1, 2);
        due("a part with 8,000,002 by 2", x.part(0, 2, 1), false);
        dueShares("as it was", x, 1, GREAT, 0, 1, 0);
    }

    private static void notAboveByThin(ShunLots x) {
        retell(x, 3, 0, 1999999, 2, 0, 1);
        due("thinned to 4,000,000", x.thin(0, 1, 1), true);
        dueShares("thin", x, 1, GREAT, 2, 1, 1);
        retell(x, 3, 0, 1999999, 3, 0, 1);
        due("thinned to 4,000,001", x.thin(0, 1, 1), false);
        retell(x, 3, 0, GREAT - 1, 2);
        due("thinned to 8,000,000 by 2", x.thin(0, 1, 1), true);
        dueShares("thin", x, 1, GREAT, 1, 0, 0);
        retell(x, 3, 0, GREAT - 1, 4);
        due("thinned to 8,000,002 by 2", x.thin(0, 1, 1), false);
        dueShares("as it was", x, 1, GREAT, 1, 0, 0);
    }

    private static void notAboveByMix(ShunLots x) {
        retell(x, 3, 2, 1);
        retell(x, 3, 0, 1333326, 11);
        due("mixed to 4,000,000", x.mix(2, 0, 2, 1, 1), true);
        dueShares("mix", x, 1, GREAT, 11);
        retell(x, 3, 0, 1333333, 1);
        due("mixed to 4,000,001", x.mix(2, 0, 2, 1, 1), false);
        retell(x, 3, 0, GREAT - 1, 2);
        due("mixed to 8,000,000 by 2", x.mix(2, 0, 1, 1, 1), true);
        dueShares("mix", x, 1, GREAT, 1);
        retell(x, 3, 0, GREAT - 1, 4);
        due("mixed to 8,000,002 by 2", x.mix(2, 0, 1, 1, 1), false);
        dueShares("as it was", x, 1, GREAT, 1);
    }

    private static void lowestTerms() {
        ShunLots x = told(2, 0, 2, 4, 0, 3);
        dueFraction("2/9", x.chance(0, 0, 0), x.chance(0, 0, 1), 2, 9);
        dueFraction("3/9", x.chance(0, 3, 0), x.chance(0, 3, 1), 1, 3);
        dueFraction("0", x.chance(0, 2, 0), x.chance(0, 2, 1), 0, 1);
        dueFraction("9/9", x.within(0, 0, 0), x.within(0, 0, 1), 1, 1);
        dueFraction("6/9", x.out(0, 2, 0), x.out(0, 2, 1), 2, 3);
        dueFraction("4/9", x.size(0, 1, 0), x.size(0, 1, 1), 4, 9);
        dueFraction("10/9", x.mean(0, 0), x.mean(0, 1), 10, 9);
        dueFraction("16/9 - 100/81", x.spread(0, 0), x.spread(0, 1), 44, 81);
        dueFraction("7/9 3/9 - 3/9", x.both(0, 0, 1, 0), x.both(0, 0, 1, 1), -2, 27);
    }

    // ---- promises 1 to 12: tables, net and hand

    private static void heldNumbers() {
        int[] asked = {LOW, -6, -1, 0, 1, 2, 6, 7, 8, 32, HIGH};
        for (int things : asked) {
            int n = things < 2 ? 2 : 6;
            n = things == 2 ? 2 : n;
            ShunLots x = new ShunLots(things);
            due(things + " THINGS: the last", x.told(5, n - 1, 0), 0);
            due(things + " THINGS: one more", x.told(5, n, 0), -10);
            due(things + " THINGS: the last SET", x.tell((1 << n) - 1, 1), true);
            due(things + " THINGS: one more", x.tell(1 << n, 1), false);
            due("hand", x.hand(0), true);
            due(things + " THINGS: all", x.size(0, n, 0), 1);
            due(things + " THINGS: one more", x.size(0, n + 1, 0), -1);
        }
    }

    private static void noLawsAtFirst() {
        ShunLots x = new ShunLots(4);
        for (int l = 0; l < 6; l++) {
            due("share", x.share(l, 0), -1);
            due("mean", x.mean(l, 0), -1);
            due("same", x.same(l, l), -1);
            due("given", x.given(l, 0, 0, l), false);
            due("part", x.part(l, 0, l), false);
            due("mix", x.mix(l, l, 1, 1, l), false);
            due("still none", x.greatest(l), -1);
        }
    }

    private static void noSuchNumber() {
        ShunLots x = new ShunLots(3);
        x.entry(0, 2, 2, -5);
        due("the least number", x.told(0, 2, 2), -5);
        due("THING 3", x.told(0, 3, 2), -10);
        due("THING 3", x.told(0, 2, 3), -10);
        due("both", x.told(0, 3, 3), -10);
        due("THING -1", x.told(0, -1, 2), -10);
        due("THING -1", x.told(0, 2, -1), -10);
        for (int place : NO_PLACES) {
            due("no TABLE", x.told(place, 2, 2), -10);
        }
    }

    private static void noSuchWorth() {
        for (int n = 2; n <= 6; n++) {
            ShunLots x = new ShunLots(n);
            for (int i = 0; i < n; i++) {
                x.entry(0, i, i, 2);
                x.entry(5, i, i, 2);
            }
            due("all", x.worth(5, (1 << n) - 1), 1 << n);
            due("a SET too great", x.worth(5, 1 << n), 0);
            due("a SET below 0", x.worth(5, -1), 0);
            due("a SET far below 0", x.worth(0, LOW), 0);
            for (int place : NO_PLACES) {
                due("no TABLE, the empty SET", x.worth(place, 0), 0);
                due("no TABLE", x.worth(place, 1), 0);
            }
        }
    }

    private static void firstBelowZero() {
        ShunLots x = new ShunLots(6);
        x.entry(5, 5, 5, -1);
        due("32", x.why(5), 32);
        x.entry(5, 4, 1, 1);
        due("18 before 32", x.why(5), 18);
        x.entry(5, 3, 3, -1);
        due("8 before 18", x.why(5), 8);
        x.entry(5, 0, 0, -1);
        due("1 before 8", x.why(5), 1);
    }

    private static void onlyTheWholeBelowZero() {
        ShunLots x = new ShunLots(3);
        for (int i = 0; i < 3; i++) {
            x.entry(0, i, i, 4);
            x.entry(0, i, (i + 1) % 3, -2);
        }
        due("0 is not below", x.worth(0, 7), 0);
        due("0 is not below", x.why(0), -1);
        due("0 is not below", x.shun(0, 0), true);
        x.entry(0, 0, 1, -3);
        due("the last SET alone", x.why(0), 7);
        due("the last SET alone", x.shun(0, 1), false);
        due("no LAW", x.share(1, 0), -1);
    }

    private static void whyNone() {
        ShunLots x = new ShunLots(2);
        due("zeros", x.why(0), -1);
        x.entry(0, 0, 0, -1);
        x.entry(5, 1, 1, -1);
        due("TABLE 0", x.why(0), 1);
        due("TABLE 5", x.why(5), 2);
        due("another TABLE", x.why(4), -1);
        for (int place : NO_PLACES) {
            due("no TABLE", x.why(place), -1);
        }
    }

    private static void wholeOfTable() {
        ShunLots x = new ShunLots(6);
        due("zeros", x.whole(0), 1);
        for (int i = 0; i < 6; i++) {
            x.entry(0, i, i, 5);
            x.entry(1, i, i, -1);
            x.entry(2, i, i, -5);
        }
        due("5 and 1 more", x.whole(0), 46656);
        due("-1 and 1 more", x.whole(1), 0);
        due("-5 and 1 more", x.whole(2), 4096);
        due("the TABLE stays", x.told(0, 5, 5), 5);
        due("the TABLE stays", x.worth(0, 63), 15625);
        x.entry(1, 5, 0, 5);
        x.entry(1, 4, 1, 5);
        x.entry(1, 3, 2, 5);
        due("below 0", x.whole(1), -15625);
    }

    private static void wholeNone() {
        ShunLots x = new ShunLots(2);
        due("TABLE 5", x.whole(5), 1);
        for (int place : NO_PLACES) {
            due("no TABLE", x.whole(place), 0);
        }
    }

    private static void shunRefused() {
        ShunLots x = new ShunLots(2);
        x.entry(0, 0, 0, 5);
        x.entry(1, 0, 0, -1);
        due("made", x.shun(0, 0), true);
        due("why() tells one", x.shun(1, 0), false);
        due("why() tells one", x.shun(1, 1), false);
        for (int place : NO_PLACES) {
            due("no TABLE", x.shun(place, 0), false);
            due("no place", x.shun(0, place), false);
        }
        dueShares("as it was", x, 0, 1, 5, 0, 0);
        due("no LAW", x.share(1, 0), -1);
        due("TABLE and place 5", x.shun(5, 5), true);
        dueShares("zeros", x, 5, 1, 0, 0, 0);
        dueShares("the other stays", x, 0, 1, 5, 0, 0);
    }

    private static void shunGreatest() {
        ShunLots x = new ShunLots(6);
        for (int i = 0; i < 6; i++) {
            x.entry(0, i, i, 5);
        }
        due("shun", x.shun(0, 0), true);
        due("the greatest WORTH without one below 0", x.share(0, 63), 15625);
        x.entry(0, 0, 0, 4);
        due("the LAW stays when the TABLE is changed", x.share(0, 1), 5);
    }

    private static void entryRefused() {
        ShunLots x = new ShunLots(2);
        x.entry(0, 1, 0, 3);
        x.entry(5, 1, 0, 3);
        for (int bad : new int[] {-1, 2, LOW, HIGH}) {
            due("no THING", x.entry(0, bad, 0, 1), false);
            due("no THING", x.entry(5, 1, bad, 1), false);
        }
        for (int place : NO_PLACES) {
            due("no TABLE", x.entry(place, 1, 0, 1), false);
        }
        for (int v : new int[] {-6, 6, LOW, HIGH}) {
            due("no such number", x.entry(0, 1, 0, v), false);
        }
        for (int cell = 0; cell < 4; cell++) {
            int want = cell == 1 || cell == 2 ? 3 : 0;
            due("TABLE 0 as it was", x.told(0, cell / 2, cell % 2), want);
            due("TABLE 5 as it was", x.told(5, cell / 2, cell % 2), want);
        }
    }

    private static void edgeRefused() {
        ShunLots x = new ShunLots(2);
        x.edge(0, 0, 1, 4);
        x.edge(1, 1, 2, 5);
        for (int bad : new int[] {-1, 2, LOW, HIGH}) {
            due("no THING", x.edge(bad, 0, 1, 9), false);
        }
        for (int bad : new int[] {-1, 5, LOW, HIGH}) {
            due("no post", x.edge(0, bad, 3, 9), false);
            due("no post", x.edge(0, 3, bad, 9), false);
        }
        for (int bad : new int[] {-1, 10, LOW, HIGH}) {
            due("no weight", x.edge(0, 3, 2, bad), false);
        }
        due("as it was", x.all(2), 4);
        due("as it was", x.all(3), 20);
        due("a loop is as told", x.edge(0, 1, 1, 9), true);
        due("a loop is in no TREE", x.all(2), 0);
    }

    private static void allOutside() {
        ShunLots x = new ShunLots(6);
        for (int i = 0; i < 4; i++) {
            x.edge(i, i, i + 1, 9);
        }
        due("the greatest product", x.all(5), 6561);
        for (int p : new int[] {LOW, -2, 0, 1, 6, 7, HIGH}) {
            due("p " + p, x.all(p), 0);
        }
        for (int i = 0; i < 6; i++) {
            x.edge(i, i % 2, 1 - i % 2, 9);
        }
        due("six side by side", x.all(2), 54);
        due("three posts are not joined", x.all(3), 0);
    }

    private static void treesRefused() {
        ShunLots x = new ShunLots(2);
        x.edge(0, 0, 1, 3);
        x.edge(1, 2, 1, 2);
        due("p 3 of two EDGES", x.trees(3, 5), true);
        dueShares("one TREE", x, 5, 0, 0, 0, 1);
        for (int p : new int[] {LOW, -1, 0, 1, 4, 5, 6, HIGH}) {
            due("p " + p, x.trees(p, 5), false);
            due("p " + p, x.trees(p, 4), false);
        }
        for (int place : NO_PLACES) {
            due("no place", x.trees(3, place), false);
        }
        dueShares("as it was", x, 5, 0, 0, 0, 1);
        due("no LAW", x.share(4, 3), -1);
        due("p 2", x.trees(2, 5), true);
        dueShares("0 of other SETS", x, 5, 0, 1, 0, 0);
        x.edge(0, 0, 1, 9);
        dueShares("the LAW stays when the net is changed", x, 5, 0, 1, 0, 0);
    }

    private static void greatestTrees() {
        ShunLots x = new ShunLots(6);
        x.edge(0, 0, 1, 9);
        x.edge(1, 1, 2, 9);
        x.edge(2, 2, 3, 9);
        x.edge(3, 3, 4, 9);
        x.edge(4, 4, 0, 1);
        due("a ring of five", x.trees(5, 0), true);
        due("the greatest product by 729", x.share(0, 15), 9);
        due("another", x.share(0, 30), 1);
        due("the ring", x.share(0, 31), 0);
        due("all", x.all(5), 6561 + 4 * 729);
        x.edge(3, 3, 4, 8);
        due("a ring of five", x.trees(5, 0), true);
        due("by 81", x.share(0, 15), 72);
        due("by 81", x.share(0, 23), 9);
        due("by 81", x.share(0, 30), 8);
    }

    private static void tellEnds() {
        ShunLots x = new ShunLots(2);
        due("4,000,000", x.tell(3, GREAT), true);
        due("1", x.tell(0, 1), true);
        due("4,000,001", x.tell(0, GREAT + 1), false);
        due("-1", x.tell(0, -1), false);
        due("HIGH", x.tell(3, HIGH), false);
        due("LOW", x.tell(3, LOW), false);
        due("SET 4", x.tell(4, 5), false);
        due("SET -1", x.tell(-1, 5), false);
        due("SET -4", x.tell(-4, 5), false);
        due("hand", x.hand(0), true);
        dueShares("as it was told", x, 0, 1, 0, 0, GREAT);
        due("0", x.tell(0, 0), true);
        dueShares("the LAW stays", x, 0, 1, 0, 0, GREAT);
        due("hand", x.hand(0), true);
        dueShares("0 is told", x, 0, 0, 0, 0, 1);
    }

    private static void handAtFirst() {
        for (int n = 2; n <= 6; n++) {
            ShunLots x = new ShunLots(n);
            due("hand", x.hand(0), false);
            x.tell((1 << n) - 1, 1);
            due("hand", x.hand(0), true);
            due("all others are 0", x.chance(0, (1 << n) - 1, 1), 1);
        }
    }

    private static void handRefused() {
        ShunLots x = told(2, 5, 0, 6, 4, 0);
        for (int place : NO_PLACES) {
            due("no place", x.hand(place), false);
        }
        x.tell(1, 0);
        x.tell(2, 0);
        due("all 0", x.hand(5), false);
        due("all 0", x.hand(0), false);
        dueShares("as it was", x, 5, 0, 3, 2, 0);
        due("no LAW", x.share(0, 1), -1);
    }

    private static void handStays() {
        ShunLots x = told(2, 0, 0, 6, 4, 0);
        dueShares("the LAW is divided", x, 0, 0, 3, 2, 0);
        x.tell(3, 1);
        due("what is told by hand is not", x.hand(1), true);
        dueShares("what is told by hand is not", x, 1, 0, 6, 4, 1);
        dueShares("the LAW stays", x, 0, 0, 3, 2, 0);
    }

    // ---- promises 13 to 17: laws from laws

    private static void givenEnds() {
        ShunLots x = told(2, 0, 1, 2, 3, 4);
        due("neither", x.given(0, 0, 0, 1), true);
        due("neither: the same", x.same(0, 1), 1);
        due("all in", x.given(0, 3, 0, 1), true);
        dueShares("all in", x, 1, 0, 0, 0, 1);
        due("all out", x.given(0, 0, 3, 1), true);
        dueShares("all out", x, 1, 1, 0, 0, 0);
        due("one in", x.given(0, 2, 0, 1), true);
        dueShares("one in", x, 1, 0, 0, 3, 4);
        due("one out", x.given(0, 0, 2, 1), true);
        dueShares("one out", x, 1, 1, 2, 0, 0);
        due("one in and one out", x.given(0, 1, 2, 1), true);
        dueShares("one in and one out", x, 1, 0, 1, 0, 0);
        due("its own place", x.given(0, 2, 0, 0), true);
        dueShares("its own place", x, 0, 0, 0, 3, 4);
    }

    private static void givenRefused() {
        ShunLots x = told(2, 0, 1, 2, 3, 0);
        due("in and out", x.given(0, 1, 1, 0), false);
        due("in and out", x.given(0, 3, 2, 5), false);
        due("it can't be", x.given(0, 3, 0, 0), false);
        due("no LAW there", x.given(5, 0, 0, 0), false);
        for (int set : new int[] {-1, 4, LOW, HIGH}) {
            due("no SET in", x.given(0, set, 0, 5), false);
            due("no SET out", x.given(0, 0, set, 5), false);
        }
        for (int place : NO_PLACES) {
            due("no LAW", x.given(place, 0, 0, 5), false);
            due("no place", x.given(0, 0, 0, place), false);
        }
        dueShares("as it was", x, 0, 1, 2, 3, 0);
        due("no LAW", x.share(5, 0), -1);
    }

    private static void thinEnds() {
        ShunLots x = told(2, 0, 1, 2, 3, 5);
        due("the empty SET", x.thin(0, 0, 1), true);
        due("the empty SET: the same", x.same(0, 1), 1);
        due("all", x.thin(0, 3, 1), true);
        // of 4: 4 + 2 * 2 + 2 * 3 + 5, 2 * 2 + 5, 2 * 3 + 5, 5
        dueShares("all", x, 1, 19, 9, 11, 5);
        due("one", x.thin(0, 2, 1), true);
        dueShares("one", x, 1, 5, 9, 3, 5);
        due("its own place", x.thin(1, 2, 1), true);
        dueShares("its own place", x, 1, 13, 23, 3, 5);
        retell(x, 2, 2, 0, 7, 0, 0);
        due("none of it is drawn", x.thin(2, 2, 2), true);
        dueShares("none of it is drawn", x, 2, 0, 1, 0, 0);
        ShunLots y = new ShunLots(6);
        y.tell(63, 1);
        y.hand(0);
        due("all of six", y.thin(0, 63, 0), true);
        for (int set = 0; set < 64; set++) {
            due("all of six by halves", y.share(0, set), 1);
        }
    }

    private static void partEnds() {
        ShunLots x = told(2, 0, 1, 2, 3, 5);
        due("all", x.part(0, 3, 1), true);
        due("all: the same", x.same(0, 1), 1);
        due("the empty SET", x.part(0, 0, 1), true);
        dueShares("the empty SET", x, 1, 1, 0, 0, 0);
        due("one", x.part(0, 2, 1), true);
        dueShares("one", x, 1, 3, 0, 8, 0);
        due("its own place", x.part(0, 1, 0), true);
        dueShares("its own place", x, 0, 4, 7, 0, 0);
        ShunLots y = fullest(63);
        due("the empty SET of the greatest sum", y.part(0, 0, 0), true);
        due("it is sure", y.share(0, 0), 1);
    }

    private static void otherEnds() {
        ShunLots x = told(2, 0, 1, 2, 3, 5);
        due("the empty SET", x.other(0, 0, 1), true);
        due("the empty SET: the same", x.same(0, 1), 1);
        due("all", x.other(0, 3, 1), true);
        dueShares("all", x, 1, 5, 3, 2, 1);
        due("one", x.other(0, 2, 1), true);
        dueShares("one", x, 1, 3, 5, 1, 2);
        due("its own place, back again", x.other(1, 2, 1), true);
        due("back again", x.same(0, 1), 1);
        ShunLots y = fullest(63);
        due("the greatest SHARES", y.other(0, 63, 1), true);
        due("the lesser one", y.share(1, 0), GREAT - 1);
        due("the last one", y.share(1, 63), GREAT);
    }

    private static void turnsRefused() {
        ShunLots x = told(2, 0, GREAT, GREAT - 1, 1, 0);
        retell(x, 2, 1, 1, 2, 3, 5);
        due("thin can't be", x.thin(0, 1, 1), false);
        due("thin can't be", x.thin(0, 1, 5), false);
        due("part can't be", x.part(0, 2, 1), false);
        due("part can't be", x.part(0, 2, 5), false);
        for (int t = 0; t < 4; t++) {
            int set = new int[] {-1, 4, LOW, HIGH}[t];
            due("thin, no SET", x.thin(1, set, 5), false);
            due("part, no SET", x.part(1, set, 5), false);
            due("other, no SET", x.other(1, set, 5), false);
            due("thin, no LAW", x.thin(NO_PLACES[t], 1, 5), false);
            due("part, no LAW", x.part(NO_PLACES[t], 1, 5), false);
            due("other, no LAW", x.other(NO_PLACES[t], 1, 5), false);
            due("thin, no place", x.thin(1, 1, NO_PLACES[t]), false);
            due("part, no place", x.part(1, 1, NO_PLACES[t]), false);
            due("other, no place", x.other(1, 1, NO_PLACES[t]), false);
        }
        due("thin, no LAW there", x.thin(5, 1, 1), false);
        due("part, no LAW there", x.part(5, 1, 1), false);
        due("other, no LAW there", x.other(5, 1, 1), false);
        dueShares("as it was", x, 0, GREAT, GREAT - 1, 1, 0);
        dueShares("as it was", x, 1, 1, 2, 3, 5);
        due("no LAW", x.share(5, 0), -1);
    }

    private static void mixEnds() {
        ShunLots x = told(2, 0, 1, 3);
        retell(x, 2, 1, 0, 1, 1);
        due("1 and 1", x.mix(0, 1, 1, 1, 2), true);
        // 2 (1, 3, 0, 0) + 4 (0, 1, 1, 0)
        dueShares("1 and 1", x, 2, 1, 5, 2, 0);
        due("9 and 9", x.mix(0, 1, 9, 9, 3), true);
        due("9 and 9: the same", x.same(2, 3), 1);
        due("9 and 1", x.mix(0, 1, 9, 1, 2), true);
        dueShares("9 and 1", x, 2, 9, 29, 2, 0);
        due("1 and 9", x.mix(0, 1, 1, 9, 2), true);
        dueShares("1 and 9", x, 2, 1, 21, 18, 0);
        due("with itself", x.mix(0, 0, 2, 7, 4), true);
        due("with itself: the same", x.same(0, 4), 1);
        due("in the second's place", x.mix(0, 1, 1, 1, 1), true);
        due("in the second's place", x.same(1, 3), 1);
        due("in the first's place", x.mix(1, 0, 1, 1, 1), true);
        dueShares("in the first's place", x, 1, 3, 11, 2, 0);
        ShunLots y = fullest(63);
        due("the greatest with itself", y.mix(0, 0, 9, 9, 5), true);
        due("the greatest with itself", y.same(0, 5), 1);
    }

    /** The greatest products: 9 times a SHARE times a sum, from both LAWS. */
    private static void mixOfGreatest() {
        int[] shares = new int[64];
        Arrays.fill(shares, GREAT);
        shares[60] = GREAT - 1;
        shares[61] = GREAT - 3;
        ShunLots x = told(6, 0, shares);
        x.tell(60, GREAT - 3);
        x.tell(61, GREAT - 1);
        due("hand", x.hand(1), true);
        due("mix", x.mix(0, 1, 9, 9, 2), true);
        for (int set = 0; set < 64; set++) {
            due("share of " + set, x.share(2, set), set == 60 || set == 61 ? GREAT / 2 - 1 : GREAT / 2);
        }
        due("by other weights it can't be", x.mix(0, 1, 9, 8, 2), false);
        due("as it was", x.share(2, 60), GREAT / 2 - 1);
    }

    private static void mixRefused() {
        ShunLots x = told(2, 0, 1, 3);
        retell(x, 2, 1, GREAT, GREAT - 1);
        for (int weight : new int[] {LOW, -1, 0, 10, HIGH}) {
            due("no weight a", x.mix(0, 0, weight, 1, 5), false);
            due("no weight b", x.mix(0, 0, 1, weight, 5), false);
        }
        for (int place : NO_PLACES) {
            due("no LAW l", x.mix(place, 0, 1, 1, 5), false);
            due("no LAW k", x.mix(0, place, 1, 1, 5), false);
            due("no place", x.mix(0, 0, 1, 1, place), false);
        }
        due("no LAW l there", x.mix(5, 0, 1, 1, 0), false);
        due("no LAW k there", x.mix(0, 5, 1, 1, 0), false);
        due("it can't be", x.mix(0, 1, 1, 1, 0), false);
        due("it can't be", x.mix(0, 1, 1, 1, 5), false);
        dueShares("as it was", x, 0, 1, 3, 0, 0);
        dueShares("as it was", x, 1, GREAT, GREAT - 1, 0, 0);
        due("no LAW", x.share(5, 0), -1);
    }

    // ---- promises 18 to 31: what a law is asked for

    private static void noShare() {
        ShunLots x = told(2, 0, 0, 1);
        due("0 is one", x.share(0, 0), 0);
        due("no SET", x.share(0, 4), -1);
        due("no SET", x.share(0, -1), -1);
        due("no LAW there", x.share(1, 1), -1);
        for (int place : NO_PLACES) {
            due("no LAW", x.share(place, 1), -1);
        }
    }

    private static void chanceEnds() {
        ShunLots x = fullest(63);
        dueFraction("3999999/255999999", x.chance(0, 63, 0), x.chance(0, 63, 1), 1333333, 85333333);
        dueFraction("the greatest sum", x.chance(0, 0, 0), x.chance(0, 0, 1), GREAT, 255999999);
        ShunLots y = told(2, 5, 0, 0, 0, 8);
        dueFraction("sure", y.chance(5, 3, 0), y.chance(5, 3, 1), 1, 1);
        dueFraction("never", y.chance(5, 0, 0), y.chance(5, 0, 1), 0, 1);
        for (int what : new int[] {-1, 2, LOW, HIGH}) {
            due("no what", y.chance(5, 3, what), -1);
        }
        for (int set : new int[] {-1, 4, LOW, HIGH}) {
            due("no SET", y.chance(5, set, 1), -1);
        }
        due("no LAW there", y.chance(4, 0, 0), -1);
        due("no LAW", y.chance(6, 0, 0), -1);
        due("no LAW", y.chance(-1, 0, 0), -1);
    }

    private static void withinEnds() {
        ShunLots x = told(3, 0, 1, 2, 3, 4, 5, 6, 7, 8);
        dueFraction("none are asked for", x.within(0, 0, 0), x.within(0, 0, 1), 1, 1);
        dueFraction("all", x.within(0, 7, 0), x.within(0, 7, 1), 2, 9);
        dueFraction("the last", x.within(0, 4, 0), x.within(0, 4, 1), 13, 18);
        due("no SET", x.within(0, 8, 0), -1);
        due("no SET", x.within(0, -1, 0), -1);
        due("no what", x.within(0, 7, 2), -1);
        due("no what", x.within(0, 7, -1), -1);
        due("no LAW there", x.within(5, 0, 0), -1);
        due("no LAW", x.within(6, 0, 0), -1);
        due("no LAW", x.within(-1, 0, 0), -1);
    }

    private static void outEnds() {
        ShunLots x = told(3, 0, 1, 2, 3, 4, 5, 6, 7, 8);
        dueFraction("none are asked for", x.out(0, 0, 0), x.out(0, 0, 1), 1, 1);
        dueFraction("all", x.out(0, 7, 0), x.out(0, 7, 1), 1, 36);
        dueFraction("the last", x.out(0, 4, 0), x.out(0, 4, 1), 5, 18);
        due("no SET", x.out(0, 8, 0), -1);
        due("no SET", x.out(0, -1, 0), -1);
        due("no what", x.out(0, 7, 2), -1);
        due("no what", x.out(0, 7, -1), -1);
        due("no LAW there", x.out(5, 0, 0), -1);
        due("no LAW", x.out(6, 0, 0), -1);
        due("no LAW", x.out(-1, 0, 0), -1);
    }

    private static void sizeEnds() {
        for (int n = 2; n <= 6; n++) {
            int[] shares = new int[1 << n];
            Arrays.fill(shares, 1);
            ShunLots x = told(n, 0, shares);
            dueFraction("none", x.size(0, 0, 0), x.size(0, 0, 1), 1, 1 << n);
            dueFraction("all", x.size(0, n, 0), x.size(0, n, 1), 1, 1 << n);
            due("-1", x.size(0, -1, 0), -1);
            due("n + 1", x.size(0, n + 1, 0), -1);
            due("LOW", x.size(0, LOW, 1), -1);
            due("HIGH", x.size(0, HIGH, 1), -1);
            due("no what", x.size(0, 0, 2), -1);
            due("no what", x.size(0, 0, -1), -1);
            due("no LAW there", x.size(1, 0, 0), -1);
            due("no LAW", x.size(6, 0, 0), -1);
        }
    }

    private static void meanEnds() {
        for (int n = 2; n <= 6; n++) {
            ShunLots x = told(n, 0, 1);
            dueFraction("none are drawn", x.mean(0, 0), x.mean(0, 1), 0, 1);
            x.tell(0, 0);
            x.tell((1 << n) - 1, 1);
            x.hand(0);
            dueFraction("all are drawn", x.mean(0, 0), x.mean(0, 1), n, 1);
            due("no what", x.mean(0, 2), -1);
            due("no what", x.mean(0, -1), -1);
            due("no LAW there", x.mean(1, 0), -1);
            due("no LAW", x.mean(6, 0), -1);
            due("no LAW", x.mean(-1, 0), -1);
        }
        ShunLots y = fullest(63);
        dueFraction("the greatest sums", y.mean(0, 0), y.mean(0, 1), 255999998, 85333333);
    }

    private static void spreadEnds() {
        for (int n = 2; n <= 6; n++) {
            ShunLots x = sized(n == 2 ? new int[] {1, 0, 1} : Arrays.copyOf(new int[] {1}, n + 1));
            dueFraction("0, or 0 and 2 by halves", x.spread(0, 0), x.spread(0, 1), n == 2 ? 1 : 0, 1);
            due("no what", x.spread(0, 2), -1);
            due("no what", x.spread(0, -1), -1);
            due("no LAW there", x.spread(1, 0), -1);
            due("no LAW", x.spread(6, 0), -1);
            due("no LAW", x.spread(-1, 0), -1);
        }
        ShunLots y = sized(1, 0, 0, 0, 0, 0, 1);
        dueFraction("0 and 6 by halves", y.spread(0, 0), y.spread(0, 1), 9, 1);
        spreadOfGreat(0);
        spreadOfGreat(63);
    }

    /** The greatest products that there are, worked out in big numbers. */
    private static void spreadOfGreat(int lesser) {
        ShunLots x = fullest(lesser);
        long size = Integer.bitCount(lesser);
        BigInteger sum = BigInteger.valueOf(64L * GREAT - 1);
        BigInteger counts = BigInteger.valueOf(192L * GREAT - size);
        BigInteger squares = BigInteger.valueOf(672L * GREAT - size * size);
        BigInteger upper = squares.multiply(sum).subtract(counts.multiply(counts));
        BigInteger lower = sum.multiply(sum);
        BigInteger divisor = upper.gcd(lower);
        dueFraction("the greatest sums", x.spread(0, 0), x.spread(0, 1),
            upper.divide(divisor).longValueExact(), lower.divide(divisor).longValueExact());
    }

    private static void bothEnds() {
        ShunLots x = told(3, 0, 3, 1, 1, 3);
        dueFraction("below 0", x.both(0, 0, 1, 0), x.both(0, 0, 1, 1), -1, 8);
        dueFraction("turned about", x.both(0, 1, 0, 0), x.both(0, 1, 0, 1), -1, 8);
        dueFraction("0", x.both(0, 0, 2, 0), x.both(0, 0, 2, 1), 0, 1);
        retell(x, 3, 0, 0, 0, 0, 0, 0, 1, 1, 0);
        dueFraction("above 0", x.both(0, 0, 1, 0), x.both(0, 0, 1, 1), 1, 4);
        dueFraction("one is sure", x.both(0, 2, 1, 0), x.both(0, 2, 1, 1), 0, 1);
        ShunLots y = fullest(63);
        long with = 32L * GREAT - 1;
        long sum = 64L * GREAT - 1;
        long upper = with * with - (16L * GREAT - 1) * sum;
        long divisor = BigInteger.valueOf(upper).gcd(BigInteger.valueOf(sum * sum)).longValueExact();
        dueFraction("the greatest sums", y.both(0, 4, 5, 0), y.both(0, 4, 5, 1), upper / divisor, sum * sum / divisor);
    }

    private static void bothNotAsTold() {
        ShunLots x = told(3, 0, 3, 1, 1, 3);
        for (int what = -2; what <= 3; what++) {
            due("a THING and itself", x.both(0, 1, 1, what), 0);
            due("no THING", x.both(0, 3, 1, what), 0);
            due("no THING", x.both(0, 1, 3, what), 0);
            due("no THING", x.both(0, -1, 1, what), 0);
            due("no THING", x.both(0, 1, -1, what), 0);
            due("no LAW there", x.both(1, 0, 1, what), 0);
            due("no LAW", x.both(6, 0, 1, what), 0);
            due("no LAW", x.both(-1, 0, 1, what), 0);
            due("what " + what, x.both(0, 0, 1, what), what == 0 ? -1 : what == 1 ? 8 : 0);
        }
    }

    private static void shunsEnds() {
        // of two THINGS both() has the sign of b c - a d
        due("0", told(2, 0, 2000, 4000, 1000, 2000).shuns(0), 1);
        due("1", told(2, 0, 1999, 2000, 2000, 2001).shuns(0), 1);
        due("-1", told(2, 0, 2000, 1999, 2001, 2000).shuns(0), 0);
        for (int n = 2; n <= 6; n++) {
            due("nothing drawn", told(n, 0, 1).shuns(0), 1);
            for (int j = 1; j < n; j++) {
                for (int i = 0; i < j; i++) {
                    ShunLots x = new ShunLots(n);
                    x.tell(0, 1);
                    x.tell(1 << i | 1 << j, 1);
                    x.hand(0);
                    due("only " + i + " and " + j + " don't", x.shuns(0), 0);
                }
            }
        }
    }

    private static void shunsOfNone() {
        ShunLots x = told(2, 0, 1);
        due("a LAW", x.shuns(0), 1);
        due("no LAW there", x.shuns(5), -1);
        for (int place : NO_PLACES) {
            due("no LAW", x.shuns(place), -1);
        }
    }

    private static void risesEnds() {
        due("up to n", sized(1, 2, 3, 4, 5, 6, 7).rises(0), 1);
        due("down from 0", sized(7, 6, 5, 4, 3, 2, 1).rises(0), 1);
        due("level", sized(1, 1, 1, 1, 1, 1, 1).rises(0), 1);
        due("zeros at the sides", sized(0, 0, 0, 1, 0, 0, 0).rises(0), 1);
        due("stays on both sides", sized(1, 1, 2, 2, 1, 1, 0).rises(0), 1);
        due("a hollow in the middle", sized(2, 1, 2).rises(0), 0);
        due("up again at the last", sized(3, 3, 2, 2, 1, 1, 2).rises(0), 0);
        due("down at the first", sized(2, 1, 1, 1, 1, 1, 2).rises(0), 0);
        due("by 1 of millions", sized(GREAT, GREAT - 1, GREAT).rises(0), 0);
        due("by 1 of millions", sized(GREAT - 1, GREAT, GREAT - 1).rises(0), 1);
        due("two tops", sized(1, 3, 2, 3, 1).rises(0), 0);
        due("two sides", sized(1, 0, 0, 0, 0, 0, 1).rises(0), 0);
        due("sizes, not SETS", told(2, 0, 2, 1, 1, 2).rises(0), 1);
        due("sizes, not SETS", told(2, 0, 3, 1, 1, 3).rises(0), 0);
    }

    private static void risesOfNone() {
        ShunLots x = told(2, 0, 1);
        due("a LAW", x.rises(0), 1);
        due("no LAW there", x.rises(5), -1);
        for (int place : NO_PLACES) {
            due("no LAW", x.rises(place), -1);
        }
    }

    private static void greatestEnds() {
        for (int n = 2; n <= 6; n++) {
            int[] shares = new int[1 << n];
            Arrays.fill(shares, 1);
            due("all alike", told(n, 0, shares).greatest(0), 0);
            shares[(1 << n) - 1] = 2;
            due("the last", told(n, 0, shares).greatest(0), (1 << n) - 1);
            shares[2] = 2;
            due("the lesser of two", told(n, 0, shares).greatest(0), 2);
        }
        due("all but the first", fullest(0).greatest(0), 1);
    }

    private static void greatestOfNone() {
        ShunLots x = told(2, 0, 1);
        due("a LAW", x.greatest(0), 0);
        due("no LAW there", x.greatest(5), -1);
        for (int place : NO_PLACES) {
            due("no LAW", x.greatest(place), -1);
        }
    }

    private static void greedyEnds() {
        for (int n = 2; n <= 6; n++) {
            int[] shares = new int[1 << n];
            Arrays.fill(shares, 1);
            ShunLots x = told(n, 0, shares);
            for (int k = 0; k <= n; k++) {
                due("of several the least", x.greedy(0, k), (1 << k) - 1);
            }
            x.tell(1 << (n - 1), 2);
            x.hand(0);
            due("none", x.greedy(0, 0), 0);
            due("the last THING", x.greedy(0, 1), 1 << (n - 1));
            due("the last and the first", x.greedy(0, 2), 1 << (n - 1) | 1);
            due("all", x.greedy(0, n), (1 << n) - 1);
            due("n + 1", x.greedy(0, n + 1), -1);
            due("-1", x.greedy(0, -1), -1);
            due("LOW", x.greedy(0, LOW), -1);
            due("HIGH", x.greedy(0, HIGH), -1);
        }
    }

    private static void greedyOverZeros() {
        ShunLots x = told(3, 0, 5, 0, 0, 9, 0, 0, 9, 0);
        due("all are 0: the least", x.greedy(0, 1), 1);
        due("then the greatest", x.greedy(0, 2), 3);
        x.tell(4, 1);
        x.hand(0);
        due("one by one, not the greatest of all", x.greedy(0, 1), 4);
        due("one by one, not the greatest of all", x.greedy(0, 2), 6);
        due("one by one, not the greatest of all", x.greedy(0, 3), 7);
    }

    private static void greedyOfNone() {
        ShunLots x = told(2, 0, 1);
        due("no LAW there", x.greedy(5, 0), -1);
        for (int place : NO_PLACES) {
            due("no LAW", x.greedy(place, 0), -1);
        }
    }

    private static void sameEnds() {
        ShunLots x = fullest(63);
        due("itself", x.same(0, 0), 1);
        x.tell(63, GREAT);
        x.tell(62, GREAT - 1);
        x.hand(5);
        due("the last two unlike", x.same(0, 5), 0);
        due("turned about", x.same(5, 0), 0);
        ShunLots y = told(2, 0, 2, 4, 0, 6);
        retell(y, 2, 1, 3, 6, 0, 9);
        due("SHARES times another number", y.same(0, 1), 1);
        retell(y, 2, 1, 3, 6, 0, 10);
        due("the last unlike", y.same(0, 1), 0);
        retell(y, 2, 1, 0, 2, 0, 3);
        due("the first unlike", y.same(0, 1), 0);
    }

    private static void sameOfNone() {
        ShunLots x = told(2, 0, 1);
        due("no LAW there", x.same(0, 5), -1);
        due("no LAW there", x.same(5, 0), -1);
        due("two that are not there", x.same(5, 5), -1);
        for (int place : NO_PLACES) {
            due("no LAW", x.same(place, 0), -1);
            due("no LAW", x.same(0, place), -1);
            due("no LAW", x.same(place, place), -1);
        }
    }

    // ---- PART 2 and promise 31

    /** The seed by which x is this one after so many steps. */
    private static long seedFor(long x, int steps) {
        BigInteger seed = BigInteger.valueOf(x);
        for (int step = 0; step < steps; step++) {
            seed = seed.subtract(STEP).multiply(FACTOR.modInverse(WRAP)).mod(WRAP);
        }
        return seed.longValue();
    }

    private static long withHighest(long highest, boolean restOnes) {
        return highest << 33 | (restOnes ? (1L << 33) - 1 : 0);
    }

    private static void belowB() {
        ShunLots x = told(2, 0, 3, 5);
        long last = (1L << 31) - 1;
        for (long highest : new long[] {0, 4, 5, 7, 8, 12, 13, 1L << 30, (1L << 30) + 5, last - 3, last - 2, last}) {
            for (boolean restOnes : new boolean[] {false, true}) {
                long seed = seedFor(withHighest(highest, restOnes), 1);
                due("highest bits " + highest, x.draw(0, seed), highest % 8 < 5 ? 1 : 0);
            }
        }
    }

    private static void aStepForEachThing() {
        for (int n = 2; n <= 6; n++) {
            for (int ahead = 0; ahead < 1 << (n - 1); ahead += (1 << (n - 1)) - 1) {
                int last = 1 << (n - 1);
                ShunLots x = new ShunLots(n);
                x.tell(ahead, 4);
                x.tell(ahead | last, 7);
                x.hand(0);
                due("u is B - 1", x.draw(0, seedFor(withHighest(11 * 1000 + 6, true), n)), ahead | last);
                due("u is B", x.draw(0, seedFor(withHighest(11 * 1000 + 7, false), n)), ahead);
                due("u is A - 1", x.draw(0, seedFor(withHighest(11 * 1000 + 10, true), n)), ahead);
                due("u is 0", x.draw(0, seedFor(withHighest(11 * 1000 + 11, false), n)), ahead | last);
            }
        }
    }

    private static void wrapped() {
        int[] shares = {3, 1, 4, 1, 5, 9, 2, 6, 5, 3, 5, 8, 9, 7, 9, 3};
        ShunLots x = told(4, 0, shares);
        ShunLots y = fullest(63);
        int[] great = new int[64];
        Arrays.fill(great, GREAT);
        great[63]--;
        long[] seeds = {0, 1, -1, Long.MIN_VALUE, Long.MAX_VALUE, 1L << 32, -(1L << 33), 1442695040888963407L,
            -1442695040888963407L, seedFor(0, 1), seedFor(-1, 1), seedFor(0, 2), seedFor(-1, 4)};
        for (long seed : seeds) {
            due("draw by " + seed, x.draw(0, seed), drawn(4, shares, seed));
            due("draw of the greatest by " + seed, y.draw(0, seed), drawn(6, great, seed));
        }
        for (long seed = 0; seed < 300; seed++) {
            long wide = seed * 0x9E3779B97F4A7C15L;
            due("draw by " + wide, x.draw(0, wide), drawn(4, shares, wide));
            due("draw of the greatest by " + wide, y.draw(0, wide), drawn(6, great, wide));
        }
    }

    /** In big numbers, and by lists of what is left. */
    private static int drawn(int n, int[] shares, long seed) {
        boolean[] left = new boolean[1 << n];
        Arrays.fill(left, true);
        BigInteger x = BigInteger.valueOf(seed).mod(WRAP);
        int taken = 0;
        for (int i = 0; i < n; i++) {
            long a = 0;
            long b = 0;
            for (int set = 0; set < left.length; set++) {
                a += left[set] ? shares[set] : 0;
                b += left[set] && (set >> i) % 2 == 1 ? shares[set] : 0;
            }
            x = x.multiply(FACTOR).add(STEP).mod(WRAP);
            boolean take = x.shiftRight(33).longValueExact() % a < b;
            taken += take ? 1 << i : 0;
            for (int set = 0; set < left.length; set++) {
                left[set] &= (set >> i) % 2 == (take ? 1 : 0);
            }
        }
        return taken;
    }

    private static void sureSets() {
        for (int n = 2; n <= 6; n++) {
            for (int set = 0; set < 1 << n; set++) {
                ShunLots x = new ShunLots(n);
                x.tell(set, 1);
                x.hand(5);
                due("a sure SET", x.draw(5, 0), set);
                due("a sure SET", x.draw(5, Long.MIN_VALUE), set);
                due("a sure SET", x.draw(5, Long.MAX_VALUE), set);
            }
        }
    }

    private static void drawChangesNothing() {
        ShunLots x = told(2, 0, 1, 1, 1, 1);
        int first = x.draw(0, 99);
        due("the same seed", x.draw(0, 99), first);
        dueShares("the LAW stays", x, 0, 1, 1, 1, 1);
    }

    private static void drawOfNone() {
        ShunLots x = told(2, 0, 1);
        due("a LAW", x.draw(0, 0), 0);
        due("no LAW there", x.draw(5, 0), -1);
        for (int place : NO_PLACES) {
            due("no LAW", x.draw(place, 0), -1);
            due("no LAW", x.draw(place, -1), -1);
        }
    }

    private static void none() {
        due("NONE", ShunLots.NONE, -1);
    }

    private static void testTerms() {
        test(0, "An object is used for at most 512 calls after it has been made", BoundariesTest::the512thCall);
        test(0, "THINGS 0 to n - 1 (n 2 to 6)", BoundariesTest::things);
        test(0, "SETS as bits (1 for THING 0, 2 for 1 ..)", BoundariesTest::sets);
        test(0, "TABLES, six places 0 to 5", BoundariesTest::tablePlaces);
        test(0, "of each two THINGS a whole number -5 to 5", BoundariesTest::tableNumbers);
        test(0, "the same across its line", BoundariesTest::acrossTheLine);
        test(0, "all 0 at first.", BoundariesTest::zerosAtFirst);
        test(0, "(of the empty SET 1)", BoundariesTest::emptyWorth);
        test(0, "the determinant of the rows and columns of its THINGS", BoundariesTest::determinants);
        test(0, "two posts (0 to 4), a weight (0 to 9)", BoundariesTest::netPostsAndWeights);
        test(0, "at first 0, 0, 0", BoundariesTest::netAtFirst);
        test(0, "are joined in just one way", BoundariesTest::joinedInOneWay);
        test(0, "all posts that are asked for (0 to p - 1, p 2 to 5)", BoundariesTest::postsAskedFor);
        test(0, "an EDGE with a post beyond is in none", BoundariesTest::postBeyond);
        test(0, "an EDGE with a post beyond is in none", BoundariesTest::twoPostsBeyond);
        test(0, "LAWS, six places 0 to 5", BoundariesTest::lawPlaces);
        test(0, "whole, 0 or more, not all 0", BoundariesTest::notAllZero);
        test(0, "Whenever a LAW is made all SHARES are divided by their greatest common divisor.",
            BoundariesTest::commonDivisor);
        test(0, "None may be above 4,000,000 then: a LAW that has one, or all 0, isn't made.", BoundariesTest::notAbove);
        test(0, "are fractions in lowest terms: the upper number (what 0), the lower one (what 1; above 0)",
            BoundariesTest::lowestTerms);
        test(0, "`NONE = -1`: There is none.", BoundariesTest::none);
    }

    private static void testTablesAndNet() {
        test(1, "(numbers below 2 or above 6 are held to these)", BoundariesTest::heldNumbers);
        test(1, "no LAWS.", BoundariesTest::noLawsAtFirst);
        test(2, "A TABLE's number of i and j becomes v: true. False, doing nothing: not as told.",
            BoundariesTest::entryRefused);
        test(3, "-10: there is none such.", BoundariesTest::noSuchNumber);
        test(4, "0 if there is no such TABLE, SET.", BoundariesTest::noSuchWorth);
        test(5, "The first SET (by numbers) whose WORTH is below 0", BoundariesTest::firstBelowZero);
        test(5, "The first SET (by numbers) whose WORTH is below 0", BoundariesTest::onlyTheWholeBelowZero);
        test(5, "NONE: none, or no such TABLE.", BoundariesTest::whyNone);
        test(6, "The WORTH of all of a TABLE with ones more on its line.", BoundariesTest::wholeOfTable);
        test(6, "0: no such TABLE.", BoundariesTest::wholeNone);
        test(7, "False, doing nothing: no such place, TABLE; why() tells one; it can't be (PART 1).",
            BoundariesTest::shunRefused);
        test(7, "Place l becomes the LAW whose SHARES are a TABLE's WORTHS: true.", BoundariesTest::shunGreatest);
        test(8, "THING i's EDGE: posts a, b, a weight: true. False, doing nothing: not as told.",
            BoundariesTest::edgeRefused);
        test(9, "0: p is outside, too.", BoundariesTest::allOutside);
        test(10, "False, doing nothing: no such place, p; it can't be.", BoundariesTest::treesRefused);
        test(10, "products of weights of TREES of p posts, 0 of other SETS", BoundariesTest::greatestTrees);
        test(11, "becomes v (0 to 4,000,000): true. False: not as told.", BoundariesTest::tellEnds);
        test(11, "(At first all are 0.)", BoundariesTest::handAtFirst);
        test(12, "False, doing nothing: no such place; it can't be.", BoundariesTest::handRefused);
        test(12, "Place l becomes the LAW that is told by hand: true.", BoundariesTest::handStays);
    }

    private static void testMakers() {
        test(13, "given that all THINGS of in are drawn and none of out: other SETS have SHARE 0.",
            BoundariesTest::givenEnds);
        test(13, "True; false, doing nothing: no such LAW, place, SETS; it can't be.", BoundariesTest::givenRefused);
        test(14, "each THING of a SET that is drawn being kept or not by halves, apart from others. Likewise.",
            BoundariesTest::thinEnds);
        test(15, "Place m becomes LAW l of what is drawn within a SET. Likewise.", BoundariesTest::partEnds);
        test(16, "LAW l of the THINGS of a SET that are not drawn, and those not of it that are. Likewise.",
            BoundariesTest::otherEnds);
        test(16, "Likewise.", BoundariesTest::turnsRefused);
        test(17, "LAW l or k by weights a and b (1 to 9)", BoundariesTest::mixEnds);
        test(17, "those of l times a and the sum of k's, those of k times b and the sum of l's, added",
            BoundariesTest::mixOfGreatest);
        test(17, "Likewise (no such weights, too).", BoundariesTest::mixRefused);
    }

    private static void testAskers() {
        test(18, "The SHARE of a SET in a LAW; NONE: none such.", BoundariesTest::noShare);
        test(19, "The chance of a SET. NONE: no such LAW, SET, what.", BoundariesTest::chanceEnds);
        test(20, "The chance that all of a SET are drawn. NONE likewise.", BoundariesTest::withinEnds);
        test(21, "The chance that none of a SET is drawn. NONE likewise.", BoundariesTest::outEnds);
        test(22, "The chance that just k (0 to n) are drawn. NONE likewise.", BoundariesTest::sizeEnds);
        test(23, "The mean of how many are drawn. NONE likewise.", BoundariesTest::meanEnds);
        test(24, "The mean of its square, less the square of its mean. NONE likewise.", BoundariesTest::spreadEnds);
        test(25, "(i and j unlike; the upper number may be below 0)", BoundariesTest::bothEnds);
        test(25, "0 of what is not as told.", BoundariesTest::bothNotAsTold);
        test(26, "Whether both() is 0 at least for all two THINGS: 1, 0.", BoundariesTest::shunsEnds);
        test(26, "NONE: no such LAW.", BoundariesTest::shunsOfNone);
        test(27, "rise (or stay) up to some size, and fall (or stay) from there on: 1, 0.", BoundariesTest::risesEnds);
        test(27, "NONE: no such LAW.", BoundariesTest::risesOfNone);
        test(28, "The SET with the greatest SHARE, of several the least.", BoundariesTest::greatestEnds);
        test(28, "NONE: no such LAW.", BoundariesTest::greatestOfNone);
        test(29, "k THINGS (0 to n) taken one by one", BoundariesTest::greedyEnds);
        test(29, "each the one with which the SET has the greatest SHARE (of several the least)",
            BoundariesTest::greedyOverZeros);
        test(29, "NONE: no such LAW, k.", BoundariesTest::greedyOfNone);
        test(30, "Whether two LAWS have the same chances: 1, 0.", BoundariesTest::sameEnds);
        test(30, "NONE: none such.", BoundariesTest::sameOfNone);
    }

    private static void testDraws() {
        test(31, "u the highest 31 bits of x by A, the rest; it's taken if u is below B.", BoundariesTest::belowB);
        test(31, "THING 0 first, then 1, and so on", BoundariesTest::aStepForEachThing);
        test(31, "(64 bits, which wrap; the seed at first)", BoundariesTest::wrapped);
        test(31, "A is the sum of SHARES of all SETS that have just those of the THINGS ahead that were taken",
            BoundariesTest::sureSets);
        test(31, "The SET that is DRAWN by a seed.", BoundariesTest::drawChangesNothing);
        test(31, "The SET that is DRAWN by a seed. NONE: no such LAW.", BoundariesTest::drawOfNone);
    }

    public static void main(String[] args) throws Exception {
        document = Files.isReadable(DOCUMENT) ? Files.readString(DOCUMENT) : "";
        testTerms();
        testTablesAndNet();
        testMakers();
        testAskers();
        testDraws();
        sentence = "numbered promises";
        for (int promise = 0; promise <= 31; promise++) {
            due("promise " + promise + " has a test", testsOf[promise] > 0, true);
        }
        System.out.println(wrong == 0 ? "all boundaries hold" : wrong + " answers are not as due");
        if (wrong != 0) {
            System.exit(1);
        }
    }
}
