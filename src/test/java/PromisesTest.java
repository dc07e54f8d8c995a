/** Promise by promise: ordinary inputs, the edges that the document names, and wrong inputs. */
public final class PromisesTest {
    private static final int LOW = Integer.MIN_VALUE;
    private static final int HIGH = Integer.MAX_VALUE;
    private static final int[] NO_PLACES = {-1, 6, LOW, HIGH};

    private static int wrong = 0;
    private static int promise = 0;

    private static void due(String call, long got, long want) {
        if (got != want) {
            wrong++;
            System.out.println("promise " + promise + ": " + call + " answered " + got + ", due is " + want);
        }
    }

    private static void due(String call, boolean got, boolean want) {
        due(call, got ? 1 : 0, want ? 1 : 0);
    }

    private static void dueFraction(String call, long upper, long lower, long wantUpper, long wantLower) {
        due(call + " upper", upper, wantUpper);
        due(call + " lower", lower, wantLower);
    }

    private static ShunLots told(int things, int l, int... shares) {
        ShunLots x = new ShunLots(things);
        for (int set = 0; set < shares.length; set++) {
            due("tell", x.tell(set, shares[set]), true);
        }
        due("hand", x.hand(l), true);
        return x;
    }

    private static void dueShares(ShunLots x, int l, long... shares) {
        for (int set = 0; set < shares.length; set++) {
            due("share(" + l + ", " + set + ")", x.share(l, set), shares[set]);
        }
        due("share beyond", x.share(l, shares.length), -1);
    }

    /** 3 THINGS: WORTHS 1, 2, 3, 5, 1, 2, 2, 3 in place 0. */
    private static ShunLots tabled() {
        ShunLots x = new ShunLots(3);
        x.entry(0, 0, 0, 2);
        x.entry(0, 1, 0, 1);
        x.entry(0, 1, 1, 3);
        x.entry(0, 2, 1, -1);
        x.entry(0, 2, 2, 1);
        return x;
    }

    private static void newObject() {
        int[] asked = {LOW, -1, 0, 1, 2, 3, 4, 5, 6, 7, HIGH};
        int[] held = {2, 2, 2, 2, 2, 3, 4, 5, 6, 6, 6};
        for (int t = 0; t < asked.length; t++) {
            ShunLots x = new ShunLots(asked[t]);
            int n = held[t];
            due("last thing", x.told(0, n - 1, n - 1), 0);
            due("no thing more", x.told(0, n, 0), -10);
            due("last set", x.tell((1 << n) - 1, 1), true);
            due("no set more", x.tell(1 << n, 1), false);
            for (int l = 0; l < 6; l++) {
                due("no law", x.share(l, 0), -1);
                due("no law", x.greatest(l), -1);
            }
        }
        due("NONE", ShunLots.NONE, -1);
    }

    private static void entry() {
        ShunLots x = new ShunLots(3);
        for (int v = -5; v <= 5; v++) {
            due("entry", x.entry(5, 2, 0, v), true);
            due("told", x.told(5, 2, 0), v);
            due("told across", x.told(5, 0, 2), v);
        }
        due("entry 6", x.entry(5, 2, 0, 6), false);
        due("entry -6", x.entry(5, 2, 0, -6), false);
        due("entry low", x.entry(5, 2, 0, LOW), false);
        due("entry high", x.entry(5, 2, 0, HIGH), false);
        for (int place : NO_PLACES) {
            due("no table", x.entry(place, 0, 0, 1), false);
        }
        for (int i : new int[] {-1, 3, LOW, HIGH}) {
            due("no thing", x.entry(0, i, 0, 1), false);
            due("no thing", x.entry(0, 0, i, 1), false);
        }
        due("kept", x.told(5, 2, 0), 5);
        for (int i = 0; i < 3; i++) {
            for (int j = 0; j < 3; j++) {
                due("other tables stay", x.told(0, i, j), 0);
            }
        }
    }

    private static void toldNumber() {
        ShunLots x = new ShunLots(2);
        due("at first", x.told(0, 0, 0), 0);
        x.entry(3, 0, 1, -4);
        due("told", x.told(3, 1, 0), -4);
        due("told", x.told(3, 0, 0), 0);
        due("told", x.told(3, 1, 1), 0);
        due("other table", x.told(2, 1, 0), 0);
        for (int place : NO_PLACES) {
            due("no table", x.told(place, 0, 0), -10);
        }
        for (int i : new int[] {-1, 2, LOW, HIGH}) {
            due("no thing", x.told(3, i, 0), -10);
            due("no thing", x.told(3, 0, i), -10);
        }
    }

    private static void worth() {
        ShunLots x = tabled();
        long[] worths = {1, 2, 3, 5, 1, 2, 2, 3};
        for (int set = 0; set < 8; set++) {
            due("worth", x.worth(0, set), worths[set]);
        }
        due("empty", x.worth(1, 0), 1);
        due("zeros", x.worth(1, 7), 0);
        due("no set", x.worth(0, 8), 0);
        due("no set", x.worth(0, -1), 0);
        due("no set", x.worth(0, LOW), 0);
        for (int place : NO_PLACES) {
            due("no table", x.worth(place, 0), 0);
        }
        ShunLots y = new ShunLots(6);
        for (int i = 0; i < 6; i++) {
            for (int j = 0; j < i; j++) {
                y.entry(0, i, j, 5);
            }
        }
        // 5 (J - I) has 25 once and -5 five times.
        due("worth of 6", y.worth(0, 63), -78125);
        due("worth of 3", y.worth(0, 42), 250);
    }

    private static void why() {
        ShunLots x = tabled();
        due("none", x.why(0), -1);
        due("zeros", x.why(4), -1);
        x.entry(0, 2, 2, -1);
        due("4", x.why(0), 4);
        x.entry(0, 2, 2, 0);
        due("6", x.why(0), 6);
        x.entry(0, 0, 1, 3);
        due("3 before 6", x.why(0), 3);
        for (int place : NO_PLACES) {
            due("no table", x.why(place), -1);
        }
    }

    private static void whole() {
        ShunLots x = tabled();
        due("whole", x.whole(0), 19);
        due("zeros", x.whole(1), 1);
        due("told stays", x.told(0, 0, 0), 2);
        x.entry(2, 0, 1, 5);
        due("below 0", x.whole(2), -24);
        for (int place : NO_PLACES) {
            due("no table", x.whole(place), 0);
        }
    }

    private static void shun() {
        ShunLots x = tabled();
        due("shun", x.shun(0, 5), true);
        dueShares(x, 5, 1, 2, 3, 5, 1, 2, 2, 3);
        due("zeros", x.shun(1, 4), true);
        dueShares(x, 4, 1, 0, 0, 0, 0, 0, 0, 0);
        x.entry(0, 2, 2, -1);
        dueShares(x, 5, 1, 2, 3, 5, 1, 2, 2, 3);
        due("why tells one", x.shun(0, 5), false);
        due("why tells one", x.shun(0, 3), false);
        due("nothing done", x.share(3, 0), -1);
        dueShares(x, 5, 1, 2, 3, 5, 1, 2, 2, 3);
        for (int place : NO_PLACES) {
            due("no table", x.shun(place, 0), false);
            due("no place", x.shun(1, place), false);
        }
        due("nothing done", x.share(0, 0), -1);
    }

    private static void edge() {
        ShunLots x = new ShunLots(2);
        due("edge", x.edge(0, 0, 1, 9), true);
        due("all", x.all(2), 9);
        due("weight", x.edge(0, 0, 1, 10), false);
        due("weight", x.edge(0, 0, 1, -1), false);
        for (int i : new int[] {-1, 2, LOW, HIGH}) {
            due("no thing", x.edge(i, 0, 1, 1), false);
        }
        for (int post : new int[] {-1, 5, LOW, HIGH}) {
            due("no post", x.edge(0, post, 1, 1), false);
            due("no post", x.edge(0, 1, post, 1), false);
        }
        due("kept", x.all(2), 9);
        due("weight 0", x.edge(0, 0, 1, 0), true);
        due("all", x.all(2), 0);
        due("a loop", x.edge(0, 4, 4, 3), true);
        due("the other thing", x.edge(1, 1, 0, 7), true);
        due("all", x.all(2), 7);
    }

    private static void all() {
        ShunLots x = new ShunLots(6);
        for (int p = 2; p <= 5; p++) {
            due("at first", x.all(p), 0);
        }
        x.edge(0, 0, 1, 2);
        x.edge(1, 1, 0, 3);
        x.edge(2, 1, 1, 9);
        x.edge(3, 2, 1, 4);
        x.edge(4, 0, 2, 1);
        x.edge(5, 4, 3, 5);
        due("two side by side", x.all(2), 5);
        due("three posts", x.all(3), 5 * 4 + 5 + 4);
        due("not joined", x.all(4), 0);
        due("not joined", x.all(5), 0);
        x.edge(2, 2, 3, 9);
        due("four posts", x.all(4), 29 * 9);
        due("five posts", x.all(5), 29 * 45);
        for (int p : new int[] {1, 0, -1, 6, LOW, HIGH}) {
            due("no such p", x.all(p), 0);
        }
        ShunLots y = new ShunLots(4);
        y.edge(0, 0, 1, 9);
        y.edge(1, 1, 2, 9);
        y.edge(2, 2, 3, 9);
        y.edge(3, 3, 4, 9);
        due("a line", y.all(5), 6561);
        ShunLots z = new ShunLots(2);
        z.edge(0, 2, 0, 5);
        due("a post beyond", z.all(2), 0);
        z.edge(0, 1, 2, 5);
        due("a post beyond", z.all(2), 0);
    }

    private static void trees() {
        ShunLots x = new ShunLots(4);
        for (int p = 1; p <= 6; p++) {
            due("no trees", x.trees(p, 0), false);
        }
        due("nothing done", x.share(0, 0), -1);
        x.edge(0, 0, 1, 2);
        x.edge(1, 1, 2, 4);
        x.edge(2, 2, 0, 6);
        x.edge(3, 3, 4, 9);
        due("trees", x.trees(3, 5), true);
        // 8, 12, 24 by 4
        dueShares(x, 5, 0, 0, 0, 2, 0, 3, 6, 0, 0, 0, 0, 0, 0, 0, 0, 0);
        due("two posts", x.trees(2, 4), true);
        dueShares(x, 4, 0, 1, 0, 0, 0, 0, 0, 0, 0, 0, 0, 0, 0, 0, 0, 0);
        due("a ring and one apart", x.trees(5, 5), false);
        due("a ring alone", x.trees(4, 5), false);
        dueShares(x, 5, 0, 0, 0, 2, 0, 3, 6, 0, 0, 0, 0, 0, 0, 0, 0, 0);
        for (int place : NO_PLACES) {
            due("no place", x.trees(3, place), false);
            due("no p", x.trees(place, 0), false);
        }
        x.edge(1, 1, 2, 0);
        x.tell(0, 1);
        due("a law with the empty set", x.hand(3), true);
        due("weight 0", x.trees(3, 3), true);
        dueShares(x, 3, 0, 0, 0, 0, 0, 1, 0, 0, 0, 0, 0, 0, 0, 0, 0, 0);
        dueShares(x, 5, 0, 0, 0, 2, 0, 3, 6, 0, 0, 0, 0, 0, 0, 0, 0, 0);
    }

    private static void tell() {
        ShunLots x = new ShunLots(2);
        due("tell", x.tell(3, 4000000), true);
        due("tell", x.tell(0, 1), true);
        due("above", x.tell(3, 4000001), false);
        due("below", x.tell(3, -1), false);
        due("low", x.tell(3, LOW), false);
        due("high", x.tell(3, HIGH), false);
        for (int set : new int[] {-1, 4, LOW, HIGH}) {
            due("no set", x.tell(set, 1), false);
        }
        due("hand", x.hand(0), true);
        dueShares(x, 0, 1, 0, 0, 4000000);
        due("tell", x.tell(3, 0), true);
        dueShares(x, 0, 1, 0, 0, 4000000);
        due("hand", x.hand(0), true);
        dueShares(x, 0, 1, 0, 0, 0);
    }

    private static void hand() {
        ShunLots x = new ShunLots(2);
        due("all 0", x.hand(0), false);
        due("nothing done", x.share(0, 0), -1);
        x.tell(1, 30);
        x.tell(2, 42);
        due("hand", x.hand(0), true);
        dueShares(x, 0, 0, 5, 7, 0);
        x.tell(3, 1);
        due("told by hand is not divided", x.hand(1), true);
        dueShares(x, 1, 0, 30, 42, 1);
        dueShares(x, 0, 0, 5, 7, 0);
        for (int place : NO_PLACES) {
            due("no place", x.hand(place), false);
        }
        x.tell(1, 0);
        x.tell(2, 0);
        x.tell(3, 0);
        due("all 0", x.hand(0), false);
        dueShares(x, 0, 0, 5, 7, 0);
    }

    private static void given() {
        ShunLots x = told(3, 0, 1, 2, 3, 4, 6, 8, 10, 12);
        due("given", x.given(0, 4, 2, 1), true);
        dueShares(x, 1, 0, 0, 0, 0, 3, 4, 0, 0);
        due("nothing asked", x.given(0, 0, 0, 1), true);
        dueShares(x, 1, 1, 2, 3, 4, 6, 8, 10, 12);
        due("into itself", x.given(0, 6, 1, 0), true);
        dueShares(x, 0, 0, 0, 0, 0, 0, 0, 1, 0);
        due("can't be", x.given(0, 1, 0, 1), false);
        due("in and out", x.given(1, 1, 1, 2), false);
        due("nothing done", x.share(2, 0), -1);
        dueShares(x, 1, 1, 2, 3, 4, 6, 8, 10, 12);
        due("no law", x.given(3, 0, 0, 0), false);
        for (int set : new int[] {-1, 8, LOW, HIGH}) {
            due("no set", x.given(1, set, 0, 2), false);
            due("no set", x.given(1, 0, set, 2), false);
        }
        for (int place : NO_PLACES) {
            due("no law", x.given(place, 0, 0, 2), false);
            due("no place", x.given(1, 0, 0, place), false);
        }
        due("nothing done", x.share(2, 0), -1);
    }

    private static void thin() {
        ShunLots x = told(2, 0, 0, 0, 0, 1);
        due("all of it", x.thin(0, 3, 1), true);
        dueShares(x, 1, 1, 1, 1, 1);
        due("one", x.thin(0, 2, 1), true);
        dueShares(x, 1, 0, 1, 0, 1);
        due("into itself", x.thin(1, 1, 1), true);
        dueShares(x, 1, 1, 1, 1, 1);
        due("again", x.thin(1, 1, 1), true);
        dueShares(x, 1, 3, 1, 3, 1);
        due("none", x.thin(1, 0, 2), true);
        due("none", x.same(1, 2), 1);
        x.tell(0, 3999999);
        x.tell(1, 4000000);
        x.tell(3, 0);
        x.hand(3);
        due("too great", x.thin(3, 1, 1), false);
        due("nothing of it drawn", x.thin(3, 2, 4), true);
        due("nothing of it drawn", x.same(3, 4), 1);
        dueShares(x, 1, 3, 1, 3, 1);
        wrongTurns(x, 0);
    }

    private static void part() {
        ShunLots x = told(3, 0, 1, 2, 3, 4, 6, 8, 10, 12);
        due("part", x.part(0, 5, 1), true);
        dueShares(x, 1, 2, 3, 0, 0, 8, 10, 0, 0);
        due("all", x.part(0, 7, 1), true);
        due("all", x.same(0, 1), 1);
        due("into itself", x.part(1, 0, 1), true);
        dueShares(x, 1, 1, 0, 0, 0, 0, 0, 0, 0);
        x.tell(0, 4000000);
        x.hand(2);
        due("too great", x.part(2, 6, 1), false);
        dueShares(x, 1, 1, 0, 0, 0, 0, 0, 0, 0);
        wrongTurns(x, 0);
    }

    private static void other() {
        ShunLots x = told(2, 0, 1, 2, 3, 4);
        due("other", x.other(0, 1, 1), true);
        dueShares(x, 1, 2, 1, 4, 3);
        due("other", x.other(0, 3, 1), true);
        dueShares(x, 1, 4, 3, 2, 1);
        due("none", x.other(0, 0, 2), true);
        due("none", x.same(0, 2), 1);
        due("into itself", x.other(2, 2, 2), true);
        dueShares(x, 2, 3, 4, 1, 2);
        wrongTurns(x, 0);
    }

    /** Wrong inputs of thin, part and other; place l has a LAW, place 5 none. */
    private static void wrongTurns(ShunLots x, int l) {
        int[] noSets = {-1, 64, LOW, HIGH};
        for (int t = 0; t < 4; t++) {
            due("thin no law", x.thin(NO_PLACES[t], 0, 5), false);
            due("part no law", x.part(NO_PLACES[t], 0, 5), false);
            due("other no law", x.other(NO_PLACES[t], 0, 5), false);
            due("thin no set", x.thin(l, noSets[t], 5), false);
            due("part no set", x.part(l, noSets[t], 5), false);
            due("other no set", x.other(l, noSets[t], 5), false);
            due("thin no place", x.thin(l, 0, NO_PLACES[t]), false);
            due("part no place", x.part(l, 0, NO_PLACES[t]), false);
            due("other no place", x.other(l, 0, NO_PLACES[t]), false);
        }
        due("thin none there", x.thin(5, 0, 5), false);
        due("part none there", x.part(5, 0, 5), false);
        due("other none there", x.other(5, 0, 5), false);
        due("nothing done", x.share(5, 0), -1);
    }

    private static void mix() {
        ShunLots x = told(2, 0, 1, 1, 0, 0);
        x.tell(0, 0);
        x.tell(1, 1);
        x.tell(3, 2);
        x.hand(1);
        due("mix", x.mix(0, 1, 1, 1, 2), true);
        // 1/2 1/2 0 0 and 0 1/3 0 2/3
        dueShares(x, 2, 3, 5, 0, 4);
        due("mix by weights", x.mix(0, 1, 2, 3, 2), true);
        dueShares(x, 2, 1, 2, 0, 2);
        due("9 and 1", x.mix(1, 0, 9, 1, 3), true);
        dueShares(x, 3, 1, 7, 0, 12);
        for (int weight : new int[] {0, -1, 10, LOW, HIGH}) {
            due("no weight", x.mix(0, 1, weight, 1, 2), false);
            due("no weight", x.mix(0, 1, 1, weight, 2), false);
        }
        for (int place : NO_PLACES) {
            due("no law", x.mix(place, 1, 1, 1, 5), false);
            due("no law", x.mix(0, place, 1, 1, 5), false);
            due("no place", x.mix(0, 1, 1, 1, place), false);
        }
        due("none there", x.mix(5, 1, 1, 1, 5), false);
        due("none there", x.mix(0, 5, 1, 1, 5), false);
        due("nothing done", x.share(5, 0), -1);
        due("into itself", x.mix(0, 1, 1, 1, 0), true);
        dueShares(x, 0, 3, 5, 0, 4);
        mixOfGreatLaws();
    }

    private static void mixOfGreatLaws() {
        int[] shares = new int[64];
        java.util.Arrays.fill(shares, 4000000);
        shares[63] = 3999999;
        ShunLots x = told(6, 0, shares);
        due("with itself", x.mix(0, 0, 9, 9, 1), true);
        due("the same", x.same(0, 1), 1);
        x.tell(63, 4000000);
        x.tell(0, 3999999);
        x.hand(2);
        due("too great", x.mix(0, 2, 9, 8, 1), false);
        due("nothing done", x.same(0, 1), 1);
    }

    private static void shareAndChance() {
        ShunLots x = told(2, 2, 6, 9, 0, 3);
        promise = 18;
        dueShares(x, 2, 2, 3, 0, 1);
        for (int set : new int[] {-1, 4, LOW, HIGH}) {
            due("no set", x.share(2, set), -1);
        }
        for (int place : NO_PLACES) {
            due("no law", x.share(place, 0), -1);
        }
        due("none there", x.share(1, 0), -1);
        promise = 19;
        dueFraction("1/3", x.chance(2, 0, 0), x.chance(2, 0, 1), 1, 3);
        dueFraction("1/2", x.chance(2, 1, 0), x.chance(2, 1, 1), 1, 2);
        dueFraction("0", x.chance(2, 2, 0), x.chance(2, 2, 1), 0, 1);
        dueFraction("1/6", x.chance(2, 3, 0), x.chance(2, 3, 1), 1, 6);
    }

    private static void withinAndOut() {
        ShunLots x = told(3, 0, 1, 2, 3, 4, 5, 6, 7, 8);
        promise = 20;
        dueFraction("empty", x.within(0, 0, 0), x.within(0, 0, 1), 1, 1);
        dueFraction("20/36", x.within(0, 1, 0), x.within(0, 1, 1), 5, 9);
        dueFraction("14/36", x.within(0, 5, 0), x.within(0, 5, 1), 7, 18);
        dueFraction("8/36", x.within(0, 7, 0), x.within(0, 7, 1), 2, 9);
        promise = 21;
        dueFraction("empty", x.out(0, 0, 0), x.out(0, 0, 1), 1, 1);
        dueFraction("16/36", x.out(0, 1, 0), x.out(0, 1, 1), 4, 9);
        dueFraction("4/36", x.out(0, 5, 0), x.out(0, 5, 1), 1, 9);
        dueFraction("1/36", x.out(0, 7, 0), x.out(0, 7, 1), 1, 36);
    }

    private static void sizeMeanAndSpread() {
        ShunLots x = told(3, 0, 1, 2, 3, 4, 5, 6, 7, 8);
        promise = 22;
        dueFraction("1/36", x.size(0, 0, 0), x.size(0, 0, 1), 1, 36);
        dueFraction("10/36", x.size(0, 1, 0), x.size(0, 1, 1), 5, 18);
        dueFraction("17/36", x.size(0, 2, 0), x.size(0, 2, 1), 17, 36);
        dueFraction("8/36", x.size(0, 3, 0), x.size(0, 3, 1), 2, 9);
        promise = 23;
        dueFraction("68/36", x.mean(0, 0), x.mean(0, 1), 17, 9);
        promise = 24;
        // 150/36 - (17/9)^2 = 675/162 - 578/162
        dueFraction("spread", x.spread(0, 0), x.spread(0, 1), 97, 162);
        ShunLots y = told(2, 0, 5, 0, 0, 0);
        promise = 23;
        dueFraction("nothing drawn", y.mean(0, 0), y.mean(0, 1), 0, 1);
        promise = 24;
        dueFraction("nothing drawn", y.spread(0, 0), y.spread(0, 1), 0, 1);
        int[] shares = new int[64];
        java.util.Arrays.fill(shares, 4000000);
        shares[63] = 3999999;
        ShunLots z = told(6, 0, shares);
        // N = 255999999 in all, 6 * 4000000 * 32 - 6 counts, 4000000 * 672 - 36 squares
        promise = 23;
        dueFraction("great", z.mean(0, 0), z.mean(0, 1), 255999998, 85333333);
        promise = 24;
        dueFraction("great", z.spread(0, 0), z.spread(0, 1), 10922666368000000L, 7281777720888889L);
    }

    /** NONE of the seven that tell fractions of a LAW (promises 19 to 24). */
    private static void noFractions() {
        ShunLots x = told(3, 0, 1, 2, 3, 4, 5, 6, 7, 8);
        for (int place : new int[] {-1, 6, 1, LOW, HIGH}) {
            noFraction(x, place, 0, 0);
        }
        for (int set : new int[] {-1, 8, LOW, HIGH}) {
            noFraction(x, 0, set, 0);
        }
        for (int what : new int[] {-1, 2, LOW, HIGH}) {
            noFraction(x, 0, 0, what);
        }
        promise = 22;
        due("k", x.size(0, 4, 0), -1);
    }

    private static void noFraction(ShunLots x, int l, int set, int what) {
        String call = "(" + l + ", " + set + ", " + what + ")";
        promise = 19;
        due("chance" + call, x.chance(l, set, what), -1);
        promise = 20;
        due("within" + call, x.within(l, set, what), -1);
        promise = 21;
        due("out" + call, x.out(l, set, what), -1);
        promise = 22;
        due("size" + call, x.size(l, set, what), -1);
        promise = 23;
        due("mean" + call, x.mean(l, what), l == 0 && what == 0 ? 17 : -1);
        promise = 24;
        due("spread" + call, x.spread(l, what), l == 0 && what == 0 ? 97 : -1);
    }

    private static void both() {
        ShunLots x = told(3, 0, 1, 2, 3, 4, 5, 6, 7, 8);
        // of 36: 20 have 0, 22 have 1, 26 have 2; 12 have 0 and 1, 14 have 0 and 2
        dueFraction("440/1296 - 12/36", x.both(0, 0, 1, 0), x.both(0, 0, 1, 1), 1, 162);
        dueFraction("520/1296 - 14/36", x.both(0, 2, 0, 0), x.both(0, 2, 0, 1), 1, 81);
        ShunLots y = told(2, 0, 3, 1, 1, 3);
        dueFraction("1/4 - 3/8", y.both(0, 0, 1, 0), y.both(0, 0, 1, 1), -1, 8);
        ShunLots z = told(2, 0, 1, 1, 1, 1);
        dueFraction("0", z.both(0, 0, 1, 0), z.both(0, 0, 1, 1), 0, 1);
        for (int what = 0; what < 2; what++) {
            due("alike", x.both(0, 1, 1, what), 0);
            for (int i : new int[] {-1, 3, LOW, HIGH}) {
                due("no thing", x.both(0, i, 0, what), 0);
                due("no thing", x.both(0, 0, i, what), 0);
            }
            for (int place : new int[] {-1, 6, 1, LOW, HIGH}) {
                due("no law", x.both(place, 0, 1, what), 0);
            }
        }
        for (int what : new int[] {-1, 2, LOW, HIGH}) {
            due("no what", x.both(0, 0, 1, what), 0);
        }
    }

    private static void shuns() {
        due("told", told(2, 0, 3, 1, 1, 3).shuns(0), 0);
        due("alone", told(2, 0, 1, 1, 1, 1).shuns(0), 1);
        due("shunning", told(2, 0, 0, 1, 1, 0).shuns(0), 1);
        // only 1 and 2 like each other; only 0 and 2; only 0 and 1
        due("1 and 2", told(3, 0, 1, 0, 0, 0, 0, 0, 1, 0).shuns(0), 0);
        due("0 and 2", told(3, 0, 1, 0, 0, 0, 0, 1, 0, 0).shuns(0), 0);
        due("0 and 1", told(3, 0, 1, 0, 0, 1, 0, 0, 0, 0).shuns(0), 0);
        ShunLots x = tabled();
        x.shun(0, 0);
        due("a table's", x.shuns(0), 1);
        due("none there", x.shuns(1), -1);
        for (int place : NO_PLACES) {
            due("no law", x.shuns(place), -1);
        }
    }

    private static void rises() {
        due("up", told(2, 0, 1, 1, 1, 3).rises(0), 1);
        due("down", told(2, 0, 3, 1, 1, 1).rises(0), 1);
        due("level", told(2, 0, 2, 1, 1, 2).rises(0), 1);
        due("down, level", told(2, 0, 3, 1, 0, 1).rises(0), 1);
        due("a hollow", told(2, 0, 2, 1, 0, 2).rises(0), 0);
        due("up and down", told(2, 0, 1, 1, 1, 1).rises(0), 1);
        due("a gap", told(3, 0, 1, 0, 0, 0, 0, 0, 0, 1).rises(0), 0);
        due("down, level, up", told(3, 0, 2, 1, 0, 1, 0, 0, 0, 2).rises(0), 0);
        due("up, level, up", told(3, 0, 1, 2, 0, 2, 0, 0, 0, 3).rises(0), 1);
        due("up, down, up", told(3, 0, 1, 2, 0, 1, 0, 0, 0, 2).rises(0), 0);
        ShunLots x = new ShunLots(3);
        due("none there", x.rises(0), -1);
        for (int place : NO_PLACES) {
            due("no law", x.rises(place), -1);
        }
    }

    private static void greatest() {
        due("the last", told(2, 0, 1, 2, 3, 4).greatest(0), 3);
        due("the first", told(2, 0, 4, 2, 3, 1).greatest(0), 0);
        due("the least of two", told(2, 0, 1, 4, 3, 4).greatest(0), 1);
        due("the least of all", told(2, 0, 1, 1, 1, 1).greatest(0), 0);
        ShunLots x = new ShunLots(3);
        due("none there", x.greatest(0), -1);
        for (int place : NO_PLACES) {
            due("no law", x.greatest(place), -1);
        }
    }

    private static void greedy() {
        ShunLots x = told(3, 0, 9, 1, 2, 5, 3, 4, 4, 0);
        due("none", x.greedy(0, 0), 0);
        due("one", x.greedy(0, 1), 4);
        due("two, the least of several", x.greedy(0, 2), 5);
        due("all", x.greedy(0, 3), 7);
        ShunLots y = told(3, 0, 1, 0, 0, 0, 0, 0, 0, 0);
        due("nothing, the least", y.greedy(0, 1), 1);
        due("nothing, the least", y.greedy(0, 2), 3);
        ShunLots z = told(3, 0, 0, 0, 1, 0, 0, 0, 0, 0);
        due("nothing more, the least", z.greedy(0, 2), 3);
        for (int k : new int[] {-1, 4, LOW, HIGH}) {
            due("no k", x.greedy(0, k), -1);
        }
        due("none there", x.greedy(1, 0), -1);
        for (int place : NO_PLACES) {
            due("no law", x.greedy(place, 0), -1);
        }
    }

    private static void same() {
        ShunLots x = told(2, 0, 2, 4, 6, 8);
        x.tell(0, 3);
        x.tell(1, 6);
        x.tell(2, 9);
        x.tell(3, 12);
        x.hand(1);
        x.tell(3, 13);
        x.hand(2);
        due("the same", x.same(0, 1), 1);
        due("itself", x.same(2, 2), 1);
        due("the last unlike", x.same(1, 2), 0);
        x.tell(3, 12);
        x.tell(0, 4);
        x.hand(2);
        due("all unlike", x.same(2, 1), 0);
        x.tell(0, 5);
        x.hand(1);
        due("the first unlike", x.same(2, 1), 0);
        due("none there", x.same(0, 3), -1);
        due("none there", x.same(3, 0), -1);
        due("none there", x.same(3, 3), -1);
        for (int place : NO_PLACES) {
            due("no law", x.same(place, 0), -1);
            due("no law", x.same(0, place), -1);
        }
    }

    private static void draw() {
        ShunLots x = tabled();
        x.shun(0, 0);
        due("seed 1", x.draw(0, 1), 5);
        due("seed -77", x.draw(0, -77), 3);
        due("seed 123456789012345", x.draw(0, 123456789012345L), 2);
        for (int set = 0; set < 8; set++) {
            ShunLots y = new ShunLots(3);
            y.tell(set, 7);
            y.hand(0);
            for (long seed : new long[] {0, 1, -1, Long.MIN_VALUE, Long.MAX_VALUE}) {
                due("a sure set", y.draw(0, seed), set);
            }
        }
        int[] drawn = new int[4];
        ShunLots z = told(2, 0, 0, 1, 2, 5);
        for (long seed = 0; seed < 480; seed++) {
            int set = z.draw(0, seed * 0x9E3779B97F4A7C15L);
            due("a set that can be", set > 0 && set < 4, true);
            drawn[set & 3]++;
        }
        due("about 60 of 480", drawn[1] > 30 && drawn[1] < 90, true);
        due("about 120 of 480", drawn[2] > 80 && drawn[2] < 160, true);
        due("none there", z.draw(1, 0), -1);
        for (int place : NO_PLACES) {
            due("no law", z.draw(place, 0), -1);
        }
    }

    public static void main(String[] args) {
        promise = 1;
        newObject();
        promise = 2;
        entry();
        promise = 3;
        toldNumber();
        promise = 4;
        worth();
        promise = 5;
        why();
        promise = 6;
        whole();
        promise = 7;
        shun();
        promise = 8;
        edge();
        promise = 9;
        all();
        promise = 10;
        trees();
        promise = 11;
        tell();
        promise = 12;
        hand();
        promise = 13;
        given();
        promise = 14;
        thin();
        promise = 15;
        part();
        promise = 16;
        other();
        promise = 17;
        mix();
        shareAndChance();
        withinAndOut();
        sizeMeanAndSpread();
        noFractions();
        promise = 25;
        both();
        promise = 26;
        shuns();
        promise = 27;
        rises();
        promise = 28;
        greatest();
        promise = 29;
        greedy();
        promise = 30;
        same();
        promise = 31;
        draw();
        System.out.println(wrong == 0 ? "all promises hold" : wrong + " answers are not as due");
        if (wrong != 0) {
            System.exit(1);
        }
    }
}
