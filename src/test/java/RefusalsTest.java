import java.util.ArrayList;
import java.util.List;

/**
 * Every call with each of its arguments just and far outside, and every call that asks for a LAW
 * that can't be: what it answers, and that the bench is as it was. To see that, the bench is held
 * against a twin that was built alike and had no such call. Arguments at the very ends of what is
 * allowed are not refused.
 */
public final class RefusalsTest {
    private static final int LOW = Integer.MIN_VALUE;
    private static final int HIGH = Integer.MAX_VALUE;
    private static final int GREAT = 4000000;
    /** The whole state of more THINGS can't be asked for within an object's 512 calls. */
    private static final int MOST_THINGS_COMPARED = 4;

    private enum Kind { TABLE, PLACE, LAW, THING, SET, NUMBER, POST, POSTS, WEIGHT, SHARE, PORTION, COUNT, WHAT }

    private interface Call {
        long on(ShunLots x, int[] a);
    }

    private interface Act {
        boolean on(ShunLots x, int m);
    }

    private interface Preparation {
        void on(ShunLots x);
    }

    /** A call's usual arguments are right ones for every number of THINGS. */
    private record Row(int promise, String name, long refused, Call call, int[] usual, Kind[] kinds) {
    }

    private static int wrong = 0;

    private static void fault(int promise, String text) {
        wrong++;
        if (wrong <= 40) {
            System.out.println("promise " + promise + ": " + text);
        }
    }

    private static long of(boolean answer) {
        return answer ? 1 : 0;
    }

    private static Row row(int promise, String name, long refused, Call call, int[] usual, Kind... kinds) {
        return new Row(promise, name, refused, call, usual, kinds);
    }

    private static int[] usual(int... arguments) {
        return arguments;
    }

    private static List<Row> rowsOfTablesAndNet() {
        List<Row> rows = new ArrayList<>();
        rows.add(row(2, "entry", 0, (x, a) -> of(x.entry(a[0], a[1], a[2], a[3])), usual(2, 0, 1, 2),
            Kind.TABLE, Kind.THING, Kind.THING, Kind.NUMBER));
        rows.add(row(3, "told", -10, (x, a) -> x.told(a[0], a[1], a[2]), usual(2, 0, 1),
            Kind.TABLE, Kind.THING, Kind.THING));
        rows.add(row(4, "worth", 0, (x, a) -> x.worth(a[0], a[1]), usual(2, 1), Kind.TABLE, Kind.SET));
        rows.add(row(5, "why", -1, (x, a) -> x.why(a[0]), usual(2), Kind.TABLE));
        rows.add(row(6, "whole", 0, (x, a) -> x.whole(a[0]), usual(2), Kind.TABLE));
        rows.add(row(7, "shun", 0, (x, a) -> of(x.shun(a[0], a[1])), usual(2, 3), Kind.TABLE, Kind.PLACE));
        rows.add(row(8, "edge", 0, (x, a) -> of(x.edge(a[0], a[1], a[2], a[3])), usual(1, 3, 4, 8),
            Kind.THING, Kind.POST, Kind.POST, Kind.WEIGHT));
        rows.add(row(9, "all", 0, (x, a) -> x.all(a[0]), usual(2), Kind.POSTS));
        rows.add(row(10, "trees", 0, (x, a) -> of(x.trees(a[0], a[1])), usual(2, 3), Kind.POSTS, Kind.PLACE));
        rows.add(row(11, "tell", 0, (x, a) -> of(x.tell(a[0], a[1])), usual(1, 13), Kind.SET, Kind.SHARE));
        rows.add(row(12, "hand", 0, (x, a) -> of(x.hand(a[0])), usual(3), Kind.PLACE));
        return rows;
    }

    private static List<Row> rowsOfMakers() {
        List<Row> rows = new ArrayList<>();
        rows.add(row(13, "given", 0, (x, a) -> of(x.given(a[0], a[1], a[2], a[3])), usual(2, 0, 0, 3),
            Kind.LAW, Kind.SET, Kind.SET, Kind.PLACE));
        rows.add(row(14, "thin", 0, (x, a) -> of(x.thin(a[0], a[1], a[2])), usual(2, 1, 3),
            Kind.LAW, Kind.SET, Kind.PLACE));
        rows.add(row(15, "part", 0, (x, a) -> of(x.part(a[0], a[1], a[2])), usual(2, 1, 3),
            Kind.LAW, Kind.SET, Kind.PLACE));
        rows.add(row(16, "other", 0, (x, a) -> of(x.other(a[0], a[1], a[2])), usual(2, 1, 3),
            Kind.LAW, Kind.SET, Kind.PLACE));
        rows.add(row(17, "mix", 0, (x, a) -> of(x.mix(a[0], a[1], a[2], a[3], a[4])), usual(2, 1, 4, 5, 3),
            Kind.LAW, Kind.LAW, Kind.PORTION, Kind.PORTION, Kind.PLACE));
        return rows;
    }

    private static List<Row> rowsOfAskers() {
        List<Row> rows = new ArrayList<>();
        rows.add(row(18, "share", -1, (x, a) -> x.share(a[0], a[1]), usual(2, 1), Kind.LAW, Kind.SET));
        rows.add(row(19, "chance", -1, (x, a) -> x.chance(a[0], a[1], a[2]), usual(2, 1, 0),
            Kind.LAW, Kind.SET, Kind.WHAT));
        rows.add(row(20, "within", -1, (x, a) -> x.within(a[0], a[1], a[2]), usual(2, 1, 0),
            Kind.LAW, Kind.SET, Kind.WHAT));
        rows.add(row(21, "out", -1, (x, a) -> x.out(a[0], a[1], a[2]), usual(2, 1, 0),
            Kind.LAW, Kind.SET, Kind.WHAT));
        rows.add(row(22, "size", -1, (x, a) -> x.size(a[0], a[1], a[2]), usual(2, 1, 0),
            Kind.LAW, Kind.COUNT, Kind.WHAT));
        rows.add(row(23, "mean", -1, (x, a) -> x.mean(a[0], a[1]), usual(2, 0), Kind.LAW, Kind.WHAT));
        rows.add(row(24, "spread", -1, (x, a) -> x.spread(a[0], a[1]), usual(2, 0), Kind.LAW, Kind.WHAT));
        rows.add(row(25, "both", 0, (x, a) -> x.both(a[0], a[1], a[2], a[3]), usual(2, 0, 1, 0),
            Kind.LAW, Kind.THING, Kind.THING, Kind.WHAT));
        rows.add(row(26, "shuns", -1, (x, a) -> x.shuns(a[0]), usual(2), Kind.LAW));
        rows.add(row(27, "rises", -1, (x, a) -> x.rises(a[0]), usual(2), Kind.LAW));
        rows.add(row(28, "greatest", -1, (x, a) -> x.greatest(a[0]), usual(2), Kind.LAW));
        rows.add(row(29, "greedy", -1, (x, a) -> x.greedy(a[0], a[1]), usual(2, 1), Kind.LAW, Kind.COUNT));
        rows.add(row(30, "same", -1, (x, a) -> x.same(a[0], a[1]), usual(2, 1), Kind.LAW, Kind.LAW));
        rows.add(row(31, "draw", -1, (x, a) -> x.draw(a[0], 12345678901L), usual(2), Kind.LAW));
        return rows;
    }

    private static int least(Kind kind) {
        return switch (kind) {
            case NUMBER -> -5;
            case POSTS -> 2;
            case PORTION -> 1;
            default -> 0;
        };
    }

    private static int most(Kind kind, int n) {
        return switch (kind) {
            case TABLE, PLACE, LAW, NUMBER, POSTS -> 5;
            case THING -> n - 1;
            case SET -> (1 << n) - 1;
            case POST -> 4;
            case WEIGHT, PORTION -> 9;
            case SHARE -> GREAT;
            case COUNT -> n;
            case WHAT -> 1;
        };
    }

    /** With numbers that come round to right ones by bytes, shifts or a turned sign. */
    private static List<Integer> outside(Kind kind, int n, int missing) {
        int least = least(kind);
        int most = most(kind, n);
        int[] tried = {LOW, LOW + 1, LOW + 2, -least - 1, -most, -32, -256, least - 1, most + 1, most + 2, 32, 33, 34,
            64, 256, 257, 65536, GREAT + 1, HIGH - 1, HIGH};
        List<Integer> outside = new ArrayList<>();
        for (int v : tried) {
            if (v < least || v > most) {
                outside.add(v);
            }
        }
        if (kind == Kind.LAW) {
            outside.add(missing);
        }
        return outside;
    }

    /** The ends of what is allowed; of posts those for which there are EDGES enough. */
    private static int[] ends(Kind kind, int n, int missing) {
        int least = least(kind);
        int most = kind == Kind.POSTS ? Math.min(5, n + 1) : most(kind, n);
        if (kind == Kind.LAW) {
            least = missing == 0 ? 1 : least;
            most = missing == 5 ? 4 : most;
        }
        return new int[] {least, most};
    }

    /** TABLES without a WORTH below 0, a joined net, SHARES by hand, and LAWS in all places but one. */
    private static ShunLots bench(int n, int missing) {
        ShunLots x = new ShunLots(n);
        for (int table = 0; table < 6; table++) {
            for (int i = 0; i < n; i++) {
                x.entry(table, i, i, 3 + (table + i) % 3);
                x.entry(table, i, Math.max(0, i - 1), i == 0 ? 4 : (table + i) % 2 * 2 - 1);
            }
        }
        int[][] edges = {{0, 1, 2}, {1, 2, 3}, {2, 3, 5}, {3, 4, 7}, {0, 2, 4}, {1, 3, 6}};
        for (int i = 0; i < n; i++) {
            x.edge(i, edges[i][0], edges[i][1], edges[i][2]);
        }
        for (int set = 0; set < 1 << n; set++) {
            x.tell(set, (set * 7 + set * set + 3) % 11 + 1);
        }
        for (int l = 0; l < 6; l++) {
            if (l != missing) {
                x.tell(l % 4, 20 + l);
                x.hand(l);
            }
        }
        return x;
    }

    /** All that can be asked of the state; what is hidden is brought to light at the end. */
    private static String state(ShunLots x, int n) {
        StringBuilder text = new StringBuilder("told");
        for (int table = 0; table < 6; table++) {
            for (int cell = 0; cell < n * n; cell++) {
                text.append(' ').append(x.told(table, cell / n, cell % n));
            }
        }
        for (int l = 0; l < 6; l++) {
            addShares(text.append(" law"), x, l, n);
        }
        for (int p = 2; p <= 5; p++) {
            text.append(" all ").append(x.all(p)).append(" trees ").append(x.trees(p, 0));
            addShares(text, x, 0, n);
        }
        text.append(" hand ").append(x.hand(0));
        addShares(text, x, 0, n);
        return text.toString();
    }

    private static void addShares(StringBuilder text, ShunLots x, int l, int n) {
        for (int set = 0; set < 1 << n; set++) {
            text.append(' ').append(x.share(l, set));
        }
    }

    private static String text(Row row, int n, int[] arguments) {
        return "of " + n + " things: " + row.name() + java.util.Arrays.toString(arguments);
    }

    private static void refuse(Row row, int n, int missing, int[] arguments, String twin) {
        ShunLots x = bench(n, missing);
        long got = row.call().on(x, arguments);
        if (got != row.refused()) {
            fault(row.promise(), text(row, n, arguments) + " answered " + got + ", due is " + row.refused());
        }
        if (n <= MOST_THINGS_COMPARED && !state(x, n).equals(twin)) {
            fault(row.promise(), text(row, n, arguments) + " was refused, and yet did something");
        }
    }

    private static void accept(Row row, int n, int missing, int[] arguments) {
        long got = row.call().on(bench(n, missing), arguments);
        if (got == row.refused()) {
            fault(row.promise(), text(row, n, arguments) + " was refused");
        }
    }

    private static int[] with(int[] arguments, int position, int v) {
        int[] changed = arguments.clone();
        changed[position] = v;
        return changed;
    }

    private static void argumentsOutside(Row row, int n, int missing, int[] usual) {
        String twin = n <= MOST_THINGS_COMPARED ? state(bench(n, missing), n) : "";
        for (int position = 0; position < usual.length; position++) {
            for (int v : outside(row.kinds()[position], n, missing)) {
                refuse(row, n, missing, with(usual, position, v), twin);
            }
        }
    }

    /** Not of why(), whose answer is NONE for these TABLES as well as for none. */
    private static void argumentsAtTheEnds(Row row, int n, int missing) {
        if (row.name().equals("why")) {
            return;
        }
        for (int position = 0; position < row.usual().length; position++) {
            for (int v : ends(row.kinds()[position], n, missing)) {
                int[] arguments = with(row.usual(), position, v);
                boolean alike = row.name().equals("both") && arguments[1] == arguments[2];
                if (!alike) {
                    accept(row, n, missing, arguments);
                }
            }
        }
    }

    private static void argumentsOf(Row row) {
        for (int n = 2; n <= 6; n++) {
            for (int missing : new int[] {0, 5}) {
                argumentsOutside(row, n, missing, row.usual());
                argumentsAtTheEnds(row, n, missing);
                int last = row.usual().length - 1;
                if (row.kinds()[last] == Kind.PLACE) {
                    argumentsOutside(row, n, missing, with(row.usual(), last, missing));
                }
            }
        }
    }

    /** A LAW that can't be is asked for in a place that has one, in its own, and in the empty place. */
    private static void cantBe(int promise, String name, Preparation preparation, Act act) {
        for (int missing : new int[] {0, 5}) {
            for (int m = 0; m < 6; m++) {
                ShunLots x = bench(3, missing);
                ShunLots twin = bench(3, missing);
                preparation.on(x);
                preparation.on(twin);
                if (act.on(x, m)) {
                    fault(promise, name + " in place " + m + " was made");
                }
                if (!state(x, 3).equals(state(twin, 3))) {
                    fault(promise, name + " in place " + m + " was refused, and yet did something");
                }
            }
        }
    }

    private static void tellAll(ShunLots x, int... shares) {
        for (int set = 0; set < 8; set++) {
            x.tell(set, set < shares.length ? shares[set] : 0);
        }
    }

    private static void handTo(ShunLots x, int l, int... shares) {
        tellAll(x, shares);
        x.hand(l);
    }

    private static void lawsThatCantBe() {
        cantBe(7, "a WORTH of one below 0", x -> x.entry(4, 2, 2, -1), (x, m) -> x.shun(4, m));
        cantBe(7, "a WORTH of two below 0", x -> x.entry(4, 2, 0, 5), (x, m) -> x.shun(4, m));
        cantBe(10, "too few EDGES", x -> { }, (x, m) -> x.trees(5, m));
        cantBe(10, "a post that is not joined", x -> x.edge(1, 0, 1, 9), (x, m) -> x.trees(3, m));
        cantBe(10, "a post beyond", x -> x.edge(0, 0, 2, 9), (x, m) -> x.trees(2, m));
        cantBe(10, "a weight of 0", x -> x.edge(2, 2, 3, 0), (x, m) -> x.trees(4, m));
        cantBe(12, "SHARES that are all 0", RefusalsTest::tellAll, (x, m) -> x.hand(m));
        cantBe(13, "in and out", x -> { }, (x, m) -> x.given(2, 3, 6, m));
        cantBe(13, "in that is never drawn", x -> handTo(x, 3, 1, 1, 1, 1), (x, m) -> x.given(3, 4, 0, m));
        cantBe(13, "out that is always drawn", x -> handTo(x, 3, 0, 1, 0, 1), (x, m) -> x.given(3, 0, 1, m));
        cantBe(14, "a thinned SHARE above", x -> handTo(x, 3, 1999999, 3, 0, 1), (x, m) -> x.thin(3, 1, m));
        cantBe(15, "a part's SHARE above", x -> handTo(x, 3, GREAT, 1, 0, 1), (x, m) -> x.part(3, 6, m));
        cantBe(17, "a mixed SHARE above", RefusalsTest::greatAndSure, (x, m) -> x.mix(4, 3, 2, 1, m));
    }

    /** LAW 4 has one SET alone: 2 parts of it and 1 of LAW 3 make SHARES 4,000,001 and 1. */
    private static void greatAndSure(ShunLots x) {
        handTo(x, 4, 1);
        handTo(x, 3, 1333333, 1);
    }

    /** Neither THING with itself, in a LAW in which every two are unlike in what they shun. */
    private static void alike() {
        for (int n = 2; n <= 6; n++) {
            ShunLots x = bench(n, 5);
            for (int i = 0; i < n; i++) {
                if (x.both(2, i, i, 0) != 0 || x.both(2, i, i, 1) != 0) {
                    fault(25, "both of a THING and itself is not 0");
                }
            }
        }
    }

    private static void askersDoNothing(List<Row> rows) {
        String twin = state(bench(4, 5), 4);
        for (Row row : rows) {
            boolean asks = row.promise() >= 18 || row.promise() == 9 || row.promise() <= 6 && row.promise() != 2;
            ShunLots x = bench(4, 5);
            row.call().on(x, row.usual());
            if (asks && !state(x, 4).equals(twin)) {
                fault(row.promise(), row.name() + " only asks, and yet did something");
            }
        }
    }

    /** Of a new object every call that needs a LAW is refused, and makes none. */
    private static void newObjects(List<Row> rows) {
        for (Row row : rows) {
            for (int n = 2; n <= 6; n++) {
                ShunLots x = new ShunLots(n);
                boolean needsLaw = row.kinds()[0] == Kind.LAW;
                if (needsLaw && row.call().on(x, row.usual()) != row.refused()) {
                    fault(row.promise(), row.name() + " of a new object found a LAW");
                }
                for (int l = 0; needsLaw && l < 6; l++) {
                    if (x.share(l, 0) != -1) {
                        fault(row.promise(), row.name() + " of a new object made a LAW");
                    }
                }
            }
        }
    }

    public static void main(String[] args) {
        List<Row> rows = new ArrayList<>(rowsOfTablesAndNet());
        rows.addAll(rowsOfMakers());
        rows.addAll(rowsOfAskers());
        for (Row row : rows) {
            argumentsOf(row);
        }
        newObjects(rows);
        askersDoNothing(rows);
        lawsThatCantBe();
        alike();
        System.out.println(wrong == 0 ? "all that is wrong is refused, and nothing done" : wrong + " answers are not as due");
        if (wrong != 0) {
            System.exit(1);
        }
    }
}
