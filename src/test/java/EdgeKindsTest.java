/** The edges that promises 31 to 34 name (kinds, test, jars, duel): each method is for the sentence ahead of it. */
public final class EdgeKindsTest {
    public static void main(String[] args) {
        kindsOfNone();
        kindsByBounds();
        kindsByManyPairs();
        testBounds();
        testOfNone();
        pairsBad();
        pairsMissing();
        pairsSize();
        pairsUnlike();
        jarsBounds();
        jarsNone();
        jarsRefused();
        duelBounds();
        duelTakesLess();
        duelLeaves();
        duelDoesNothing();
        duelRefused();
        Due.end("EdgeKindsTest");
    }

    private static LuckJars withPairs(int... numbers) {
        LuckJars x = Edge.busy();
        Due.row(x, 4, numbers);
        x.house(1, 3);
        return x;
    }

    // "(a ROW without places is well)": any KIND can be
    private static void kindsOfNone() {
        LuckJars x = withPairs();
        for (int i = 0; i < 7; i++) {
            Due.is("kinds: by no pair " + i, x.kinds(i, 4), 63);
        }
        Due.both("test: by no pair", x, x.test(0, 4), 21, 1);
        Due.both("test: by no pair, the last house", x, x.test(6, 4), 21, 1);
    }

    // "pairs (what was in a JAR 0 .. 99, what it was WORTH 0 .. 300)"
    private static void kindsByBounds() {
        int[][] all = {{0, 0, 45}, {0, 3, 2}, {0, 6, 16}, {0, 300, 0}, {20, 20, 9}, {21, 21, 1}, {21, 0, 8}, {2, 0, 32},
            {3, 1, 32}, {3, 6, 6}, {5, 5, 41}, {4, 14, 16}, {99, 99, 1}, {99, 102, 2}, {99, 198, 4}, {99, 0, 8},
            {99, 204, 16}, {99, 193, 32}, {99, 300, 0}, {50, 51, 0}};
        for (int[] one : all) {
            LuckJars x = withPairs(one[0], one[1]);
            Due.is("kinds by " + one[0] + ", " + one[1], x.kinds(0, 4), one[2]);
            Due.is("kinds by " + one[0] + ", " + one[1] + ": asked stays", x.asked(), 13);
        }
    }

    // The ROW holds twenty pairs at most; each of them counts, and those by which none is left are no refusal.
    private static void kindsByManyPairs() {
        int[] pairs = new int[40];
        for (int k = 0; k < 40; k += 2) {
            pairs[k] = k / 2;
            pairs[k + 1] = k / 2;
        }
        Due.is("kinds: twenty pairs", withPairs(pairs).kinds(0, 4), 9);
        for (int k = 1; k < 40; k += 2) {
            int[] other = pairs.clone();
            other[k] = 299;
            Due.is("kinds: but for pair " + k / 2, withPairs(other).kinds(0, 4), 0);
        }
        pairs[38] = 21;
        pairs[39] = 21;
        Due.is("kinds: the last tells", withPairs(pairs).kinds(0, 4), 1);
        pairs[39] = 0;
        Due.is("kinds: the last tells otherwise", withPairs(pairs).kinds(0, 4), 8);
        Due.is("kinds: one against another", withPairs(5, 5, 5, 10).kinds(0, 4), 0);
    }

    // "The JAR (0 .. 99) to ask ...: the greatest part ... is least (the first); that part by asked()."
    private static void testBounds() {
        int[][] all = {{21, 21, 0, 1}, {99, 102, 0, 1}, {5, 10, 0, 1}, {21, 0, 0, 1}, {4, 14, 0, 1}, {2, 0, 0, 1},
            {3, 6, 0, 1}, {8, 11, 0, 1}, {20, 20, 21, 1}, {0, 0, 21, 1}, {5, 5, 21, 1}};
        for (int[] one : all) {
            LuckJars x = withPairs(one[0], one[1]);
            Due.both("test by " + one[0] + ", " + one[1], x, x.test(0, 4), one[2], one[3]);
        }
    }

    // "NONE: there is no KIND."
    private static void testOfNone() {
        Edge.refused("test: no kind", () -> withPairs(50, 51), LuckJars.NONE, x -> x.test(0, 4));
        Edge.refused("test: no kind by two", () -> withPairs(5, 5, 5, 10), LuckJars.NONE, x -> x.test(6, 4));
        Edge.refused("test: no kind by 300", () -> withPairs(0, 300), LuckJars.NONE, x -> x.test(0, 4));
    }

    // kinds, test: "BAD" ahead of all
    private static void pairsBad() {
        for (int i : Edge.beyond(0, 6)) {
            Edge.refused("kinds of " + i, Edge::busy, LuckJars.BAD, x -> x.kinds(i, 0));
            Edge.refused("test of " + i, Edge::busy, LuckJars.BAD, x -> x.test(i, 0));
            Edge.refused("kinds of " + i + ", missing", Edge::busy, LuckJars.BAD, x -> x.kinds(i, 5));
            Edge.refused("test of " + i + ", size", Edge::busy, LuckJars.BAD, x -> x.test(i, 1));
        }
        for (int r : Edge.beyond(0, 5)) {
            Edge.refused("kinds by row " + r, Edge::busy, LuckJars.BAD, x -> x.kinds(0, r));
            Edge.refused("test by row " + r, Edge::busy, LuckJars.BAD, x -> x.test(0, r));
        }
        Edge.refused("kinds without houses", LuckJars::new, LuckJars.BAD, x -> x.kinds(0, 0));
        Edge.refused("test without houses", LuckJars::new, LuckJars.BAD, x -> x.test(0, 0));
    }

    // kinds, test: "NOTHING"
    private static void pairsMissing() {
        Edge.found("kinds by a missing row", Edge::busy, Due.NOTHING, x -> x.kinds(0, 5));
        Edge.found("test by a missing row", Edge::busy, Due.NOTHING, x -> x.test(0, 5));
    }

    // "SIZE: not by pairs (a ROW without places is well); UNLIKE ... (In this order.)" "5 SIZE (... not as many as
    // due)"
    private static void pairsSize() {
        for (int size = 1; size < 40; size += 2) {
            int[] row = new int[size];
            row[0] = -1;
            Edge.found("kinds by " + size, () -> withPairs(row), Due.SIZE, x -> x.kinds(0, 4));
            Edge.found("test by " + size, () -> withPairs(row), Due.SIZE, x -> x.test(0, 4));
        }
    }

    // "UNLIKE: a number that is none."
    private static void pairsUnlike() {
        for (int jar : Edge.beyond(0, 99)) {
            Edge.found("kinds: a jar of " + jar, () -> withPairs(jar, 0), Due.UNLIKE, x -> x.kinds(0, 4));
            Edge.found("test: a jar of " + jar, () -> withPairs(jar, 0), Due.UNLIKE, x -> x.test(0, 4));
            Edge.found("kinds: then a jar of " + jar, () -> withPairs(4, 4, jar, 0), Due.UNLIKE, x -> x.kinds(0, 4));
        }
        for (int worth : Edge.beyond(0, 300)) {
            Edge.found("kinds: worth " + worth, () -> withPairs(0, worth), Due.UNLIKE, x -> x.kinds(0, 4));
            Edge.found("test: worth " + worth, () -> withPairs(0, worth), Due.UNLIKE, x -> x.test(0, 4));
            Edge.found("test: then worth " + worth, () -> withPairs(4, 4, 9, worth), Due.UNLIKE, x -> x.test(0, 4));
        }
        Edge.found("test: unlike ahead of none", () -> withPairs(50, 51, 100, 0), Due.UNLIKE, x -> x.test(0, 4));
        int[] twenty = new int[40];
        twenty[38] = 100;
        Edge.found("kinds: the last jar", () -> withPairs(twenty), Due.UNLIKE, x -> x.kinds(0, 4));
        int[] last = new int[40];
        last[39] = 301;
        Edge.found("kinds: the last worth", () -> withPairs(last), Due.UNLIKE, x -> x.kinds(0, 4));
    }

    // "What may be in a JAR (0 .. 99) by what it is WORTH (0 .. 300): how many; the least by asked()."
    private static void jarsBounds() {
        int[][] all = {{0, 0, 1, 0}, {0, 99, 1, 99}, {1, 3, 1, 0}, {1, 102, 1, 99}, {2, 0, 1, 0}, {2, 198, 1, 99},
            {3, 0, 80, 0}, {3, 1, 1, 1}, {3, 20, 1, 20}, {4, 6, 1, 0}, {4, 204, 1, 99}, {5, 0, 3, 0}, {5, 1, 1, 3},
            {5, 193, 1, 99}};
        LuckJars x = Edge.busy();
        for (int[] one : all) {
            Due.both("jars of " + one[0] + " by " + one[1], x, x.jars(one[0], one[1]), one[2], one[3]);
        }
    }

    // jars: "NONE: nothing."
    private static void jarsNone() {
        int[][] all = {{0, 100}, {0, 300}, {1, 0}, {1, 2}, {1, 103}, {2, 1}, {2, 197}, {2, 200}, {3, 21}, {3, 99},
            {4, 0}, {4, 5}, {4, 7}, {4, 206}, {4, 300}, {5, 2}, {5, 195}};
        for (int[] one : all) {
            Edge.refused("jars of " + one[0] + " by " + one[1], Edge::busy, LuckJars.NONE,
                x -> x.jars(one[0], one[1]));
        }
    }

    // jars: "BAD."
    private static void jarsRefused() {
        for (int w : Edge.beyond(0, 300)) {
            Edge.refused("jars by " + w, Edge::busy, LuckJars.BAD, x -> x.jars(0, w));
        }
        for (int i : Edge.beyond(0, 6)) {
            Edge.refused("jars of " + i, Edge::busy, LuckJars.BAD, x -> x.jars(i, 0));
        }
        Edge.refused("jars without houses", LuckJars::new, LuckJars.BAD, x -> x.jars(0, 0));
    }

    private static LuckJars withQuay(String houses, int quay) {
        LuckJars x = Due.placed(houses + " h0099");
        if (quay > 0) {
            x.leave(x.count(0) - 1, quay);
        }
        return x;
    }

    private static void duelIs(String houses, int quay, int turns, int want) {
        LuckJars x = withQuay(houses, quay);
        Due.is("duel: " + houses + " by " + quay + ", " + turns, x.duel(0, 1, turns), 500 + want);
        Due.is("duel: nothing is done", x.count(3), quay);
    }

    // "By n (0 .. 6) turns in all ... and 500"
    private static void duelBounds() {
        duelIs("h0000 h0000", 0, 0, 0);
        duelIs("h0000 h0000", 99, 0, 0);
        duelIs("h0000 h0000", 99, 1, 9);
        duelIs("h0000 h0000", 99, 2, 0);
        duelIs("h0000 h0000", 99, 3, 9);
        duelIs("h0000 h0000", 99, 5, 9);
        duelIs("h0000 h0000", 99, 6, 0);
        duelIs("g0000 h0000", 99, 6, 27);
        duelIs("h0000 g0000", 99, 6, -27);
        duelIs("o0099 k0021", 0, 0, 204);
        duelIs("k0021 o0099", 0, 0, -204);
        LuckJars last = Due.placed("h0000h0000h0000h0000h0000h0007h0030");
        Due.is("duel: the last two", last.duel(6, 5, 0), 523);
        Due.is("duel: the first and the last", last.duel(0, 6, 0), 470);
    }

    // "takes 9 of what is on THE QUAY (less, if there is less, or more than 99 would be in the JAR)"
    private static void duelTakesLess() {
        duelIs("h0000 h0000", 10, 1, 9);
        duelIs("h0000 h0000", 9, 1, 9);
        duelIs("h0000 h0000", 8, 1, 8);
        duelIs("h0000 h0000", 1, 1, 1);
        duelIs("h0000 h0000", 0, 1, 0);
        duelIs("h0000 h0000", 12, 2, 6);
        duelIs("h0000 h0000", 20, 3, 2);
        duelIs("h0089 h0000", 99, 1, 98);
        duelIs("h0090 h0000", 99, 1, 99);
        duelIs("h0091 h0000", 99, 1, 99);
        duelIs("h0098 h0000", 99, 1, 99);
        duelIs("h0099 h0000", 99, 1, 99);
        duelIs("h0000 h0095", 99, 2, 9 - 99);
        duelIs("h0000 h0099", 99, 2, 9 - 99);
    }

    // "or leaves 9 there (less, if there is less)"
    private static void duelLeaves() {
        duelIs("k0029 h0000", 0, 1, 20);
        duelIs("k0030 h0000", 0, 1, 0);
        duelIs("k0030 h0000", 0, 3, 3);
        duelIs("k0021 h0000", 0, 1, 12);
        duelIs("k0021 h0000", 0, 2, 3);
        duelIs("h0000 k0021", 0, 1, 0);
        duelIs("h0000 k0021", 0, 2, -12);
        duelIs("h0005 k0008", 0, 6, -3);
    }

    // "or does nothing"
    private static void duelDoesNothing() {
        duelIs("k0020 h0000", 9, 1, 20);
        duelIs("k0013 h0000", 9, 1, 13);
        duelIs("k0012 h0000", 9, 1, 12);
        duelIs("k0011 h0000", 9, 1, 20);
        duelIs("h0000 h0000", 0, 6, 0);
    }

    // duel: "BAD: also two alike."
    private static void duelRefused() {
        for (int n : Edge.beyond(0, 6)) {
            Edge.refused("duel by " + n, Edge::busy, LuckJars.BAD, x -> x.duel(0, 1, n));
        }
        for (int i : Edge.beyond(0, 6)) {
            Edge.refused("duel of " + i, Edge::busy, LuckJars.BAD, x -> x.duel(i, 1, 0));
            Edge.refused("duel with " + i, Edge::busy, LuckJars.BAD, x -> x.duel(1, i, 0));
            Edge.refused("duel of both " + i, Edge::busy, LuckJars.BAD, x -> x.duel(i, i, 0));
        }
        for (int k = 0; k < 7; k++) {
            int i = k;
            Edge.refused("duel of " + i + " with itself", Edge::busy, LuckJars.BAD, x -> x.duel(i, i, 6));
        }
        Edge.refused("duel without houses", LuckJars::new, LuckJars.BAD, x -> x.duel(0, 1, 0));
    }
}
