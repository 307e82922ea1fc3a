/** The edges that promises 35 to 37 name (odds, mid, lots): each method is for the sentence that stands ahead of it. */
public final class EdgeChancesTest {
    private static final int MODULUS = 2147483647;

    public static void main(String[] args) {
        oddsBounds();
        oddsOfNoughtAndOne();
        lowestTerms();
        oddsOfFullJars();
        oddsRefused();
        midBounds();
        midRefused();
        lotsBounds();
        lotsGoRound();
        lotsSpring();
        lotsLeaveLess();
        lotsTakeLess();
        lotsOnDayNinetyNine();
        lotsBad();
        lotsFull();
        lotsOrder();
        lotsTellNothing();
        Due.end("EdgeChancesTest");
    }

    // "Chances that v (0 .. 7) WORKS or more come OFF behind a DAY on which each HOUSE FINDS nothing by p (0 .. 12) of
    // 12, each by itself: 1."
    private static void oddsBounds() {
        LuckJars two = Due.placed("h5100 h5100");
        Due.chance("odds: both", two, two.odds(2, 1), 121, 144);
        Due.chance("odds: one or more", two, two.odds(1, 1), 143, 144);
        Due.chance("odds: none or more", two, two.odds(0, 1), 1, 1);
        Due.chance("odds: both of eleven", two, two.odds(2, 11), 1, 144);
        LuckJars seven = Due.placed("h5100h5100h5100h5100h5100h5100h5100");
        Due.chance("odds: seven", seven, seven.odds(7, 11), 1, 35831808);
        Due.chance("odds: seven by 1", seven, seven.odds(7, 1), 19487171, 35831808);
        Due.chance("odds: one of seven by 11", seven, seven.odds(1, 11), 35831808 - 19487171, 35831808);
        Due.chance("odds: four of seven by 6", seven, seven.odds(4, 6), 1, 2);
        Due.chance("odds: six of seven by 6", seven, seven.odds(6, 6), 1, 16);
        LuckJars mixed = Due.placed("h0105 h5100 h0100");
        Due.chance("odds: one anyway, one perhaps, one not", mixed, mixed.odds(2, 5), 7, 12);
        LuckJars turns = Due.placed("k1420 h0900");
        Due.chance("odds: it comes off if nothing is found", turns, turns.odds(1, 5), 5, 12);
        LuckJars hard = Due.placed("h9909 h9936");
        Due.chance("odds: in one day", hard, hard.odds(1, 3), 3, 4);
        LuckJars slow = Due.placed("h3100 h4101");
        Due.chance("odds: not in one day", slow, slow.odds(2, 0), 0, 1);
        Due.chance("odds: one in one day", slow, slow.odds(1, 0), 1, 1);
        Due.chance("mid: one in one day", slow, slow.mid(0), 1, 1);
    }

    // "(0 by 1)"; by p 0 and 12 it is sure
    private static void oddsOfNoughtAndOne() {
        LuckJars two = Due.placed("h5100 h5100");
        Due.chance("odds: all find", two, two.odds(2, 0), 1, 1);
        Due.chance("odds: none finds", two, two.odds(1, 12), 0, 1);
        Due.chance("odds: none or more, none finds", two, two.odds(0, 12), 1, 1);
        Due.chance("odds: more than there are", two, two.odds(3, 0), 0, 1);
        Due.chance("odds: seven of two", two, two.odds(7, 6), 0, 1);
        Due.chance("mid: none", two, two.mid(12), 0, 1);
        Due.chance("mid: all", two, two.mid(0), 2, 1);
    }

    // "in lowest terms, the lower number above 0"
    private static void lowestTerms() {
        LuckJars one = Due.placed("h5100 h0900");
        int[][] terms = {{1, 1}, {11, 12}, {5, 6}, {3, 4}, {2, 3}, {7, 12}, {1, 2}, {5, 12}, {1, 3}, {1, 4}, {1, 6},
            {1, 12}, {0, 1}};
        for (int p = 0; p <= 12; p++) {
            Due.chance("odds by " + p, one, one.odds(1, p), terms[p][0], terms[p][1]);
            Due.chance("mid by " + p, one, one.mid(p), terms[p][0], terms[p][1]);
        }
    }

    // A DAY that goes by leaves 99 at most in a JAR; nothing of it is done.
    private static void oddsOfFullJars() {
        LuckJars x = Due.placed("h9999 k9012");
        Due.chance("odds: a full jar", x, x.odds(2, 7), 1, 1);
        Due.is("odds: aside, day", x.count(1), 0);
        Due.is("odds: aside, jars", x.count(4), 111);
        LuckJars full = Edge.full();
        Due.chance("odds: forty deeds", full, full.odds(3, 7), 1, 1);
        Due.chance("mid: forty deeds", full, full.mid(7), 3, 1);
        Due.is("odds: still forty deeds", full.count(2), 40);
    }

    // odds: "BAD; STATE: no HOUSES."
    private static void oddsRefused() {
        for (int v : Edge.beyond(0, 7)) {
            Edge.refused("odds of " + v, Edge::busy, LuckJars.BAD, x -> x.odds(v, 6));
            Edge.refused("odds of " + v + " without houses", LuckJars::new, LuckJars.BAD, x -> x.odds(v, 6));
        }
        for (int p : Edge.beyond(0, 12)) {
            Edge.refused("odds by " + p, Edge::busy, LuckJars.BAD, x -> x.odds(1, p));
            Edge.refused("odds by " + p + " without houses", LuckJars::new, LuckJars.BAD, x -> x.odds(1, p));
        }
        Edge.refused("odds without houses", LuckJars::new, LuckJars.STATE, x -> x.odds(0, 0));
    }

    // "The mean of how many WORKS do: 1."
    private static void midBounds() {
        LuckJars seven = Due.placed("h5100h5100h5100h5100h5100h5100h5100");
        Due.chance("mid: seven by 0", seven, seven.mid(0), 7, 1);
        Due.chance("mid: seven by 1", seven, seven.mid(1), 77, 12);
        Due.chance("mid: seven by 12", seven, seven.mid(12), 0, 1);
        LuckJars mixed = Due.placed("h0105 h5100 k1420 h0900");
        Due.chance("mid: anyway, perhaps, and perhaps not", mixed, mixed.mid(5), 2, 1);
        LuckJars none = Due.placed("h0900 h1900");
        Due.chance("mid: none", none, none.mid(6), 0, 1);
    }

    // mid: "BAD; STATE: no HOUSES."
    private static void midRefused() {
        for (int p : Edge.beyond(0, 12)) {
            Edge.refused("mid by " + p, Edge::busy, LuckJars.BAD, x -> x.mid(p));
            Edge.refused("mid by " + p + " without houses", LuckJars::new, LuckJars.BAD, x -> x.mid(p));
        }
        Edge.refused("mid without houses", LuckJars::new, LuckJars.STATE, x -> x.mid(0));
    }

    /** The seed from which the first number is the one told: there is one for each, the modulus being prime. */
    private static int seedOf(int number) {
        return java.math.BigInteger.valueOf(48271).modInverse(java.math.BigInteger.valueOf(MODULUS))
            .multiply(java.math.BigInteger.valueOf(number)).mod(java.math.BigInteger.valueOf(MODULUS)).intValueExact();
    }

    // "n (1 .. 20) DEEDS truly by LOTS of a seed ... (1 .. 2147483646)"
    private static void lotsBounds() {
        for (int n = 1; n <= 20; n++) {
            LuckJars x = Due.placed("h1010 h1020 h0030");
            Due.is("lots: " + n + " are not refused", x.lots(n, 4711) >= 0 ? 1 : 0, 1);
            Due.is("lots: " + n + " deeds", x.count(2), n);
        }
        LuckJars least = Due.placed("h1010 h1020");
        Due.is("lots: seed 1 is a day (48271)", least.lots(1, 1), 0);
        Due.is("lots: seed 1 is a day", least.count(1), 1);
        LuckJars most = Due.placed("h1010 h1021");
        Due.is("lots: the greatest seed is a spring (2147435376)", most.lots(1, MODULUS - 1), 1);
        Edge.jars("lots: the greatest seed", most, 15, 15);
    }

    // "a number comes from the one ahead by 48271 times it modulo 2147483647": it goes round no int
    private static void lotsGoRound() {
        LuckJars x = Due.placed("h1010 h1010 h1010 h1010 h1010 h1010 h1010");
        LuckJars byHand = Due.placed("h1010 h1010 h1010 h1010 h1010 h1010 h1010");
        java.math.BigInteger lot = java.math.BigInteger.valueOf(2000000011);
        for (int k = 0; k < 20; k++) {
            lot = lot.multiply(java.math.BigInteger.valueOf(48271)).mod(java.math.BigInteger.valueOf(MODULUS));
            int one = lot.intValueExact();
            int i = one / 8 % 7;
            byHand.house(i, 3);
            int jar = byHand.asked();
            if (one % 8 == 0) {
                byHand.spring();
            } else if (one % 8 == 1) {
                byHand.leave(i, Math.min(9, jar));
            } else if (one % 8 == 2) {
                byHand.take(i, Math.min(9, Math.min(99 - jar, byHand.count(3))));
            } else {
                byHand.day();
            }
        }
        Due.is("lots: twenty by a great seed", x.lots(20, 2000000011), byHand.count(3));
        Due.is("lots: twenty by a great seed, day", x.count(1), byHand.count(1));
        for (int i = 0; i < 7; i++) {
            byHand.house(i, 3);
            Due.tells("lots: twenty by a great seed, jar " + i, x, x.house(i, 3), byHand.asked());
        }
    }

    // "if it modulo 8 is 0, there is a SPRING"; "else a DAY goes by": the least and the greatest numbers there are
    private static void lotsSpring() {
        for (int number : new int[] {8, 16, 2147483640, 2147483632}) {
            LuckJars x = Due.placed("h9010 h9021");
            Due.is("lots: a spring by " + number, x.lots(1, seedOf(number)), 1);
            Edge.jars("lots: a spring by " + number, x, 15, 15);
            Due.is("lots: no day by " + number, x.count(1), 0);
        }
        for (int number : new int[] {3, 4, 5, 6, 7, 11, 2147483643, 2147483646}) {
            LuckJars x = Due.placed("h9010 h9095");
            Due.is("lots: a day by " + number, x.lots(1, seedOf(number)), 0);
            Edge.jars("lots: a day by " + number, x, 19, 99);
            Due.is("lots: a day by " + number, x.count(1), 1);
        }
    }

    private static void leavesBy(int number, int house) {
        int[] jars = {9, 10, 8};
        LuckJars x = Due.placed("h9009 h9010 h9008");
        Due.is("lots: left by " + number, x.lots(1, seedOf(number)), Math.min(9, jars[house]));
        jars[house] -= Math.min(9, jars[house]);
        Edge.jars("lots: left by " + number, x, jars);
        Due.is("lots: left by " + number + ", a deed", x.count(2), 1);
        Due.is("lots: left by " + number + ", no day", x.count(1), 0);
    }

    // "if it is 1, the HOUSE that it by 8, cut, modulo how many there are leaves 9 on THE QUAY (less, if there is less)"
    private static void lotsLeaveLess() {
        leavesBy(1, 0);
        leavesBy(9, 1);
        leavesBy(17, 2);
        leavesBy(25, 0);
        leavesBy(2147483641, 2147483641 / 8 % 3);
        LuckJars none = Due.placed("h9000 h9050");
        Due.is("lots: leaves of nothing", none.lots(1, seedOf(1)), 0);
        Due.is("lots: leaves of nothing, a deed", none.count(2), 1);
        Edge.jars("lots: leaves of nothing", none, 0, 50);
        Due.is("lots: a deed that can be undone", none.undo(0), 1);
    }

    private static void takesBy(int number, int quay, int jar, int takes) {
        LuckJars x = Due.placed("h90" + jar / 10 + jar % 10 + " h9099");
        if (quay > 0) {
            x.leave(1, quay);
        }
        int deeds = x.count(2);
        Due.is("lots: of " + quay + " to " + jar, x.lots(1, seedOf(number)), quay - takes);
        Edge.jars("lots: of " + quay + " to " + jar, x, jar + takes, 99 - quay);
        Due.is("lots: of " + quay + " to " + jar + ", a deed", x.count(2), deeds + 1);
        Due.is("lots: of " + quay + " to " + jar + ", no day", x.count(1), 0);
    }

    // "if it is 2, it takes 9 (less, as in turns)": "less, if there is less, or more than 99 would be in the JAR"
    private static void lotsTakeLess() {
        takesBy(2, 10, 0, 9);
        takesBy(2, 9, 0, 9);
        takesBy(2, 8, 0, 8);
        takesBy(2, 1, 0, 1);
        takesBy(2, 0, 0, 0);
        takesBy(2, 50, 89, 9);
        takesBy(2, 50, 90, 9);
        takesBy(2, 50, 91, 8);
        takesBy(2, 50, 98, 1);
        takesBy(2, 50, 99, 0);
        takesBy(2, 3, 97, 2);
        takesBy(2, 2, 96, 2);
        takesBy(18, 50, 5, 9);
        LuckJars second = Due.placed("h0050 h0003");
        second.leave(0, 20);
        Due.is("lots: the second takes", second.lots(1, seedOf(10)), 11);
        Edge.jars("lots: the second takes", second, 30, 12);
    }

    // "else a DAY goes by, if it is not DAY 99 (a DEED of nothing else)"
    private static void lotsOnDayNinetyNine() {
        LuckJars x = Edge.onDay(Due.placed("h9010 h1020"), 98);
        x.lots(1, seedOf(3));
        Due.is("lots: day 99", x.count(1), 99);
        Edge.jars("lots: day 99", x, 19, 21);
        Due.is("lots: no more days", x.lots(1, seedOf(7)), 0);
        Due.is("lots: still day 99", x.count(1), 99);
        Due.is("lots: a deed of nothing", x.count(2), 2);
        Edge.jars("lots: a deed of nothing", x, 19, 21);
        Due.is("lots: other deeds are done on day 99", x.lots(1, seedOf(1)), 9);
    }

    // lots: "BAD"
    private static void lotsBad() {
        for (int n : Edge.beyond(1, 20)) {
            Edge.refused("lots of " + n, Edge::busy, LuckJars.BAD, x -> x.lots(n, 1));
        }
        for (int seed : new int[] {0, -1, -2147483646, Due.LEAST, MODULUS}) {
            Edge.refused("lots by " + seed, Edge::busy, LuckJars.BAD, x -> x.lots(1, seed));
        }
    }

    private static LuckJars withDeeds(int deeds) {
        LuckJars x = Due.placed("h1010 h1020");
        for (int k = 0; k < deeds; k++) {
            x.day();
        }
        return x;
    }

    // "FULL: with n more there would be more than 40 DEEDS."
    private static void lotsFull() {
        for (int n = 1; n <= 20; n++) {
            int many = n;
            LuckJars x = withDeeds(40 - n);
            Due.is("lots: " + n + " up to forty", x.lots(n, 7) >= 0 ? 1 : 0, 1);
            Due.is("lots: " + n + " up to forty, deeds", x.count(2), 40);
            Edge.refused("lots: " + n + " up to 41", () -> withDeeds(41 - many), LuckJars.FULL, y -> y.lots(many, 7));
        }
        Edge.refused("lots: 20 up to 60", () -> withDeeds(40), LuckJars.FULL, x -> x.lots(20, 7));
    }

    // "BAD; STATE: no HOUSES; FULL ... (FULL last.)"
    private static void lotsOrder() {
        Edge.refused("lots without houses", LuckJars::new, LuckJars.STATE, x -> x.lots(20, 1));
        Edge.refused("lots of 0 without houses", LuckJars::new, LuckJars.BAD, x -> x.lots(0, 1));
        Edge.refused("lots by 0 without houses", LuckJars::new, LuckJars.BAD, x -> x.lots(1, 0));
        Edge.refused("lots of 21, full", Edge::full, LuckJars.BAD, x -> x.lots(21, 1));
        Edge.refused("lots by 0, full", Edge::full, LuckJars.BAD, x -> x.lots(1, 0));
    }

    // lots is not among those that tell by asked().
    private static void lotsTellNothing() {
        LuckJars x = Due.placed("h9010 h9021");
        x.house(1, 3);
        x.lots(1, seedOf(8));
        Due.is("lots: asked stays by a spring", x.asked(), 21);
        Due.is("lots: upper stays", x.upper(), 0);
        Due.is("lots: lower stays", x.lower(), 1);
    }
}
