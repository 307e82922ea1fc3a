/** The edges that promises 23 to 30 name (what comes, what to do): each method is for the sentence ahead of it. */
public final class EdgeComingTest {
    public static void main(String[] args) {
        worksNoneAndAll();
        worksWithoutHouses();
        laterBounds();
        laterFullJars();
        laterBeyondDayNinetyNine();
        laterRefused();
        whenFirst();
        whenNone();
        whenRefused();
        lacksLeast();
        lacksNone();
        lacksRefused();
        shareJustEnough();
        shareLeastNumber();
        shareWithNothing();
        shareRefused();
        bestBounds();
        bestOfNone();
        bestBeyondDayNinetyNine();
        bestRefused();
        lendingBounds();
        lendingBeyondTheJar();
        lendingFirst();
        lendingNone();
        lendingRefused();
        greedyBounds();
        greedyNone();
        greedyRefused();
        aside();
        Due.end("EdgeComingTest");
    }

    // "WORKS (bits) that come OFF now; how many by asked()."
    private static void worksNoneAndAll() {
        LuckJars none = Due.placed("h0900h0900h0900h0900h0900h0900h0900");
        Due.both("works: none", none, none.works(), 0, 0);
        LuckJars all = Due.placed("h0945h0945h0945h0945h0945h0945h0945");
        Due.both("works: all", all, all.works(), 127, 7);
        LuckJars last = Due.placed("h0900h0900h0900h0900h0900h0900h0945");
        Due.both("works: the last", last, last.works(), 64, 1);
        LuckJars first = Due.placed("h0945 h0944");
        Due.both("works: the first", first, first.works(), 1, 1);
    }

    // works names no STATE: of no HOUSES none come OFF.
    private static void worksWithoutHouses() {
        LuckJars x = new LuckJars();
        Due.row(x, 0, 9);
        x.at(0, 0);
        Due.both("works: no houses", x, x.works(), 0, 0);
    }

    // "A JAR behind n (0 .. 60) DAYS, nothing else being done; behind a SPRING on top of them by asked()."
    private static void laterBounds() {
        LuckJars x = Due.placed("h1003 h0008");
        Due.both("later: 0 days", x, x.later(0, 0), 3, 5);
        Due.both("later: 1 day", x, x.later(0, 1), 4, 6);
        Due.both("later: 60 days", x, x.later(0, 60), 63, 35);
        Due.both("later: who finds nothing", x, x.later(1, 60), 8, 35);
    }

    // "(99 at most; what is more is lost)"; "(99 at most); ... what is more is on THE QUAY"
    private static void laterFullJars() {
        LuckJars x = Due.placed("o9090 h9090 h0000");
        Due.both("later: just 99", x, x.later(0, 1), 99, 99);
        Due.both("later: no more than 99", x, x.later(1, 60), 99, 33);
        Due.both("later: what is lost is not shared", x, x.later(2, 60), 0, 33);
        LuckJars y = Due.placed("c1000 h0007");
        Due.both("later: a cat on an odd day", y, y.later(0, 59), 59, 62);
        Due.both("later: a cat on an even day", y, y.later(0, 60), 60, 33);
    }

    // "(aside; DAYS go on beyond 99 there)"
    private static void laterBeyondDayNinetyNine() {
        LuckJars x = Edge.onDay(Due.placed("c1010 h0000"), 99);
        Due.both("later: on day 99", x, x.later(0, 0), 10, 10);
        Due.both("later: day 100", x, x.later(0, 1), 11, 5);
        Due.both("later: day 101", x, x.later(0, 2), 12, 12);
        Due.both("later: day 159", x, x.later(0, 60), 70, 70);
        Due.is("later: still on day 99", x.count(1), 99);
        LuckJars y = Edge.onDay(Due.placed("h1104 h1900"), 99);
        Due.both("when: day 100", y, y.when(0), 1, 5);
        Due.both("when: day 144", y, y.when(1), 45, 45);
        Due.is("when: still on day 99", y.count(1), 99);
    }

    // later: "BAD."
    private static void laterRefused() {
        for (int n : Edge.beyond(0, 60)) {
            Edge.refused("later by " + n, Edge::busy, LuckJars.BAD, x -> x.later(0, n));
        }
        for (int i : Edge.beyond(0, 6)) {
            Edge.refused("later of " + i, Edge::busy, LuckJars.BAD, x -> x.later(i, 0));
        }
        Edge.refused("later without houses", LuckJars::new, LuckJars.BAD, x -> x.later(0, 0));
    }

    private static void whenIs(String house, int want, int worth) {
        LuckJars x = Due.placed("h0000 " + house);
        Due.both("when: " + house, x, x.when(1), want, worth);
    }

    // "Behind how many DAYS (0 .. 60) its WORK comes OFF first; what the JAR is WORTH then by asked()."
    private static void whenFirst() {
        whenIs("h0000", 0, 0);
        whenIs("h9099", 0, 99);
        whenIs("h1105", 0, 5);
        whenIs("h1104", 1, 5);
        whenIs("h1900", 45, 45);
        whenIs("h9901", 5, 46);
        whenIs("w1102", 0, 5);
        whenIs("w1101", 1, 5);
        whenIs("g1902", 21, 46);
        whenIs("o1900", 20, 46);
        whenIs("c1900", 25, 45);
        whenIs("c1100", 5, 5);
        whenIs("k1400", 20, 20);
        whenIs("k9402", 2, 20);
        whenIs("k9021", 0, 0);
    }

    private static void whenNever(String house) {
        Edge.refused("when: " + house, () -> Due.placed("h0007 " + house), LuckJars.NONE, x -> x.when(1));
    }

    // "NONE: not by then."
    private static void whenNone() {
        whenNever("h0104");
        whenNever("h0944");
        whenNever("w0101");
        whenNever("g0102");
        whenNever("k9403");
        whenNever("k1500");
        whenNever("k1421");
        whenNever("k0999");
        whenNever("o0919");
        whenNever("c0104");
    }

    // when: "BAD."
    private static void whenRefused() {
        for (int i : Edge.beyond(0, 6)) {
            Edge.refused("when " + i, Edge::busy, LuckJars.BAD, x -> x.when(i));
        }
        Edge.refused("when without houses", LuckJars::new, LuckJars.BAD, x -> x.when(0));
    }

    private static void lackIs(String house, int want, int worth) {
        LuckJars x = Due.placed("h0000 " + house);
        Due.both("lacks: " + house, x, x.lacks(1), want, worth);
    }

    // "The least that has to be more in a JAR (99 at most in it) for its WORK to come OFF; what the JAR is WORTH then"
    private static void lacksLeast() {
        lackIs("h0000", 0, 0);
        lackIs("h0999", 0, 99);
        lackIs("h0944", 1, 45);
        lackIs("h0900", 45, 45);
        lackIs("w0100", 2, 5);
        lackIs("g0100", 3, 6);
        lackIs("g0922", 1, 46);
        lackIs("o0100", 0, 6);
        lackIs("o0900", 20, 46);
        lackIs("c0100", 5, 5);
        lackIs("c0102", 3, 5);
        lackIs("c0900", 25, 45);
        lackIs("k0419", 1, 20);
        lackIs("k0400", 20, 20);
        lackIs("k0420", 0, 20);
        lackIs("k0021", 0, 0);
    }

    private static void lacksByNothing(String house) {
        Edge.refused("lacks: " + house, () -> Due.placed("h0007 " + house), LuckJars.NONE, x -> x.lacks(1));
    }

    // "NONE: by nothing."
    private static void lacksNone() {
        lacksByNothing("k0121");
        lacksByNothing("k0199");
        lacksByNothing("k0500");
        lacksByNothing("k0520");
        lacksByNothing("k0999");
    }

    // lacks: "BAD."
    private static void lacksRefused() {
        for (int i : Edge.beyond(0, 6)) {
            Edge.refused("lacks " + i, Edge::busy, LuckJars.BAD, x -> x.lacks(i));
        }
        Edge.refused("lacks without houses", LuckJars::new, LuckJars.BAD, x -> x.lacks(0));
    }

    // The last house leaves what is on the quay; its own work comes off anyway.
    private static void shareIs(String houses, int quay, int want, int takes) {
        LuckJars x = Due.placed(houses + "h0099");
        if (quay > 0) {
            x.leave(x.count(0) - 1, quay);
        }
        int anyway = 1 << x.count(0) - 1;
        Due.both("share: " + houses + " by " + quay, x, x.share(), want + anyway, takes);
        Due.is("share: aside", x.count(3), quay);
    }

    // "As many WORKS as can be ... if THE QUAY is shared among their JARS (whole numbers ...)"; "the least that this
    // takes by asked()"
    private static void shareJustEnough() {
        shareIs("h0105", 0, 1, 0);
        shareIs("h0104", 0, 0, 0);
        shareIs("h0104", 1, 1, 1);
        shareIs("h0944", 54, 1, 1);
        shareIs("h0100", 4, 0, 0);
        shareIs("h0100", 5, 1, 5);
        shareIs("h0100", 6, 1, 5);
        shareIs("g0102", 1, 1, 1);
        shareIs("h0100h0100", 9, 1, 5);
        shareIs("h0100h0100", 10, 3, 10);
        shareIs("h0900h0100", 44, 2, 5);
        shareIs("h0900h0100", 45, 1, 45);
        shareIs("h0900h0100", 49, 1, 45);
        shareIs("h0900h0100", 50, 3, 50);
        shareIs("h0100h0100h0100h0100h0100h0100", 29, 31, 25);
        shareIs("h0100h0100h0100h0100h0100h0100", 30, 63, 30);
        shareIs("k0421", 54, 0, 0);
        shareIs("k0021", 54, 1, 0);
        shareIs("k0520h0104", 54, 2, 1);
    }

    // "(bits; of as many the least number; those that come OFF anyway are in it)"
    private static void shareLeastNumber() {
        shareIs("h0104h0104", 1, 1, 1);
        shareIs("h0102h0103h0104", 3, 6, 3);
        shareIs("h0102h0103h0104", 4, 5, 4);
        shareIs("h0102h0103h0104", 5, 3, 5);
        shareIs("h0102h0103h0104", 6, 7, 6);
        shareIs("h0000h0104h0000h0104", 1, 7, 1);
        shareIs("h0100h0000", 4, 2, 0);
        shareIs("h0000h0100", 4, 1, 0);
    }

    // Nothing is on THE QUAY, or nothing can be.
    private static void shareWithNothing() {
        LuckJars one = Due.placed("h0000 h0900");
        Due.both("share: the first alone", one, one.share(), 1, 0);
        LuckJars other = Due.placed("h0900 h0000");
        Due.both("share: the other one alone", other, other.share(), 2, 0);
        LuckJars none = Due.placed("h0900 k0999");
        Due.both("share: none", none, none.share(), 0, 0);
        LuckJars all = Due.placed("h0000h0000h0000h0000h0000h0000h0000");
        Due.both("share: all", all, all.share(), 127, 0);
    }

    // share: "STATE: no HOUSES."
    private static void shareRefused() {
        Edge.refused("share without houses", LuckJars::new, LuckJars.STATE, LuckJars::share);
    }

    private static void bestIs(String houses, int want, int many) {
        LuckJars x = Due.placed(houses);
        Due.both("best: " + houses, x, x.best(), want, many);
    }

    // "Behind how many DAYS (0 .. 20) a SPRING makes most WORKS come OFF (the first); how many by asked()."
    private static void bestBounds() {
        bestIs("h0000 h0000", 0, 2);
        bestIs("h1105 h1105", 0, 2);
        bestIs("h1104 h1104", 1, 2);
        bestIs("h1505 h1505", 20, 2);
        bestIs("h1504 h1504", 0, 0);
        bestIs("h1504 h1505", 0, 0);
        bestIs("h1505 h1506", 20, 2);
        bestIs("h1100 h1900", 5, 1);
        bestIs("h0110 c0900", 0, 1);
        LuckJars quay = Due.placed("h1100 h1104");
        quay.leave(1, 4);
        Due.both("best: with the quay", quay, quay.best(), 3, 2);
        LuckJars odd = Due.placed("c0020 h0200");
        odd.day();
        Due.both("best: a cat, from an odd day on", odd, odd.best(), 1, 2);
    }

    private static void bestOfNone() {
        LuckJars x = Due.placed("h0900 h0907");
        x.house(1, 3);
        Due.both("best: none by any", x, x.best(), 0, 0);
    }

    // "(aside; DAYS go on beyond 99 there)"
    private static void bestBeyondDayNinetyNine() {
        LuckJars x = Edge.onDay(Due.placed("c0020 h0200"), 99);
        Due.both("best: day 100", x, x.best(), 1, 2);
        LuckJars late = Edge.onDay(Due.placed("h1505 h1505"), 99);
        Due.both("best: day 119", late, late.best(), 20, 2);
        Due.is("best: still on day 99", late.count(1), 99);
    }

    // best: "STATE: no HOUSES."
    private static void bestRefused() {
        Edge.refused("best without houses", LuckJars::new, LuckJars.STATE, LuckJars::best);
    }

    // "Who should lend v (1 .. 99) to whom ... none who has less than v"
    private static void lendingBounds() {
        LuckJars one = Due.placed("h0104 h0106");
        Due.both("lending: 1", one, one.lending(1), 10, 2);
        LuckJars most = Due.placed("h0099 h0900");
        Due.both("lending: 99", most, most.lending(99), 1, 2);
        LuckJars just = Due.placed("h0007 h0100");
        Due.both("lending: all that it has", just, just.lending(7), 1, 2);
        Edge.refused("lending: more than it has", () -> Due.placed("h0007 h0100"), LuckJars.NONE, x -> x.lending(8));
        Edge.refused("lending: 99 of 98", () -> Due.placed("h0098 h0900"), LuckJars.NONE, x -> x.lending(99));
        LuckJars last = Due.placed("h0900h0900h0900h0900h0900h0100h0005");
        Due.both("lending: the last to the one ahead", last, last.lending(5), 65, 2);
    }

    // "(... what is beyond 99 is on THE QUAY)": a jar holds no more by it
    private static void lendingBeyondTheJar() {
        LuckJars rid = Due.placed("k0125 h0099");
        Due.both("lending: to a full jar", rid, rid.lending(5), 1, 2);
        Due.is("lending: aside", rid.count(3), 0);
        Due.is("lending: no deed", rid.count(2), 0);
    }

    // "10 times the one, and the other one; the first"
    private static void lendingFirst() {
        LuckJars all = Due.placed("h0010 h0010 h0104 h0104");
        Due.both("lending: the first of all", all, all.lending(1), 2, 3);
        LuckJars two = Due.placed("h0900 h0010 h0900 h0104 h0010");
        Due.both("lending: the first who can", two, two.lending(5), 13, 3);
        LuckJars more = Due.placed("h0104 h0010 k0121");
        Due.both("lending: more ahead of the first", more, more.lending(1), 20, 3);
    }

    // "NONE: by no two more than now."
    private static void lendingNone() {
        for (int v : new int[] {1, 5, 98, 99}) {
            Edge.refused("lending " + v + ": all are off", () -> Due.placed("h0099 h0099"), LuckJars.NONE,
                x -> x.lending(v));
            Edge.refused("lending " + v + ": none has it", () -> Due.placed("h0900 h0100"), LuckJars.NONE,
                x -> x.lending(v));
        }
        Edge.refused("lending: one for another", () -> Due.placed("h0105 h0104"), LuckJars.NONE, x -> x.lending(1));
    }

    // lending: "BAD; STATE: no HOUSES."
    private static void lendingRefused() {
        for (int v : Edge.beyond(1, 99)) {
            Edge.refused("lending " + v, Edge::busy, LuckJars.BAD, x -> x.lending(v));
            Edge.refused("lending " + v + " without houses", LuckJars::new, LuckJars.BAD, x -> x.lending(v));
        }
        Edge.refused("lending without houses", LuckJars::new, LuckJars.STATE, x -> x.lending(1));
    }

    // "would BRING v (0 .. 999) on a SPRING now, all together with the others, without what is on THE QUAY: how many;
    // the least number by asked()"; "a GREEDY one all but 7 (0 at least)"
    private static void greedyBounds() {
        LuckJars nothing = Due.placed("h0007 h0000");
        Due.both("greedy: 0", nothing, nothing.greedy(0), 2, 1);
        Due.both("greedy: all of it", nothing, nothing.greedy(7), 2, 0);
        LuckJars most = Due.placed("h0099h0099h0099h0099h0099h0099h0099");
        Due.both("greedy: none of seven", most, most.greedy(693), 1, 0);
        Due.both("greedy: seven of seven", most, most.greedy(644), 1, 127);
        Due.both("greedy: one of seven", most, most.greedy(686), 7, 1);
        Due.both("greedy: six of seven", most, most.greedy(651), 7, 63);
        LuckJars seven = Due.placed("h0008 h0006");
        Due.both("greedy: 8 less 7", seven, seven.greedy(7), 1, 1);
        Due.both("greedy: 6 less 6", seven, seven.greedy(8), 1, 2);
        Due.both("greedy: both", seven, seven.greedy(1), 1, 3);
        LuckJars quay = Due.placed("h0020 h0000");
        quay.leave(0, 10);
        Due.both("greedy: without the quay", quay, quay.greedy(10), 2, 0);
        LuckJars kinds = Due.placed("w0020 o0020 k0020");
        Due.both("greedy: as they are, or a greedy one anyway", kinds, kinds.greedy(23), 2, 0);
        Due.both("greedy: a widow brings more so", kinds, kinds.greedy(26), 2, 1);
        Due.both("greedy: an old one brings more so", kinds, kinds.greedy(36), 2, 2);
        Due.both("greedy: all of them", kinds, kinds.greedy(39), 2, 3);
        LuckJars cat = Due.placed("c1020 h0000");
        Due.both("greedy: a cat on an even day", cat, cat.greedy(20), 2, 0);
        cat.day();
        Due.both("greedy: a cat on an odd day", cat, cat.greedy(0), 2, 0);
        Due.both("greedy: as a greedy one on an odd day", cat, cat.greedy(14), 2, 1);
    }

    // "NONE: none."
    private static void greedyNone() {
        for (int v : new int[] {0, 643, 645, 650, 687, 692, 694, 999}) {
            Edge.refused("greedy " + v, () -> Due.placed("h0099h0099h0099h0099h0099h0099h0099"), LuckJars.NONE,
                x -> x.greedy(v));
        }
    }

    // greedy: "BAD; STATE: no HOUSES."
    private static void greedyRefused() {
        for (int v : Edge.beyond(0, 999)) {
            Edge.refused("greedy " + v, Edge::busy, LuckJars.BAD, x -> x.greedy(v));
            Edge.refused("greedy " + v + " without houses", LuckJars::new, LuckJars.BAD, x -> x.greedy(v));
        }
        Edge.refused("greedy without houses", LuckJars::new, LuckJars.STATE, x -> x.greedy(0));
    }

    // "(aside ...)": also with forty deeds done, and nothing is done by it
    private static void aside() {
        LuckJars x = Edge.full();
        long before = x.digest();
        Due.is("aside: later", x.later(0, 60), 48);
        Due.is("aside: when", x.when(1), 0);
        Due.is("aside: lacks", x.lacks(1), 0);
        Due.is("aside: share", x.share(), 7);
        Due.is("aside: best", x.best(), 0);
        Due.is("aside: lending", x.lending(1), LuckJars.NONE);
        Due.is("aside: greedy", x.greedy(48), 2);
        Due.is("aside: works", x.works(), 7);
        Due.is("aside: nothing is done", x.digest() == before ? 1 : 0, 1);
        Due.is("aside: forty deeds still", x.undo(40), 0);
    }
}
