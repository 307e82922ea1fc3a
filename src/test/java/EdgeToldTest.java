import java.util.function.ToLongFunction;

/** The edges that "ANSWERS" and promises 38 to 44 name: each method is for the sentence that stands ahead of it. */
public final class EdgeToldTest {
    public static void main(String[] args) {
        numbersOfAnswers();
        orderOfRefusals();
        noughtBefore();
        askedByEach();
        askedStaysByRefused();
        askedStaysByNone();
        askedStaysByOthers();
        upperAndLowerStay();
        countBounds();
        countWithoutHouses();
        countRefused();
        findingBefore();
        findingStays();
        findingsOfEach();
        findingsRefused();
        findingsOfMany();
        digestOfMissing();
        digestOfEmpty();
        digestOfLongest();
        digestGoesRound();
        digestTellsNothing();
        toTheLastCall();
        Due.end("EdgeToldTest");
    }

    // "BAD -1 ..., FULL -2, STATE -4 ..., SPENT -6 ..., FINDING -3 ... NONE -9."
    private static void numbersOfAnswers() {
        Due.is("BAD", LuckJars.BAD, -1);
        Due.is("FULL", LuckJars.FULL, -2);
        Due.is("FINDING", LuckJars.FINDING, -3);
        Due.is("STATE", LuckJars.STATE, -4);
        Due.is("SPENT", LuckJars.SPENT, -6);
        Due.is("NONE", LuckJars.NONE, -9);
    }

    // "Refused is, the first of these that fits, in this order ..., unless a call says so otherwise."
    private static void orderOfRefusals() {
        Edge.refused("bad ahead of size: row", LuckJars::new, LuckJars.BAD, x -> x.row(6, -1));
        Edge.refused("bad ahead of size: text", LuckJars::new, LuckJars.BAD, x -> x.text(4, -1));
        Edge.refused("bad ahead of nothing: lay", LuckJars::new, LuckJars.BAD, x -> x.lay(6, -1, 0));
        Edge.refused("bad ahead of nothing: put", LuckJars::new, LuckJars.BAD, x -> x.put(4, -1, 0));
        Edge.refused("bad ahead of unlike: mark", Edge::busy, LuckJars.BAD, x -> x.mark(0, 0));
        Edge.refused("bad ahead of state: lend", Edge::busy, LuckJars.BAD, x -> x.lend(6, 7, 99));
        Edge.refused("bad ahead of state: leave", Edge::busy, LuckJars.BAD, x -> x.leave(6, 100));
        Edge.refused("bad ahead of state: take", Edge::busy, LuckJars.BAD, x -> x.take(7, 99));
        Edge.refused("bad ahead of state: keep", LuckJars::new, LuckJars.BAD, x -> x.keep(3));
        Edge.refused("bad ahead of state: lending", LuckJars::new, LuckJars.BAD, x -> x.lending(0));
        Edge.refused("bad ahead of state: greedy", LuckJars::new, LuckJars.BAD, x -> x.greedy(-1));
        Edge.refused("bad ahead of state: odds", LuckJars::new, LuckJars.BAD, x -> x.odds(8, 0));
        Edge.refused("bad ahead of state: mid", LuckJars::new, LuckJars.BAD, x -> x.mid(13));
        Edge.refused("bad ahead of state: lots", LuckJars::new, LuckJars.BAD, x -> x.lots(0, 1));
        Edge.refused("bad ahead of nothing: kinds", Edge::busy, LuckJars.BAD, x -> x.kinds(7, 5));
        Edge.refused("bad ahead of nothing: test", Edge::busy, LuckJars.BAD, x -> x.test(-1, 5));
        Edge.refused("bad ahead of nothing: on", LuckJars::new, LuckJars.BAD, x -> x.on(3));
        Edge.refused("bad ahead of nothing: place", LuckJars::new, LuckJars.BAD, x -> x.place(4));
    }

    // asked: "0 before."; upper: "0 before."; lower: "1 before."
    private static void noughtBefore() {
        LuckJars x = new LuckJars();
        Due.is("before: asked", x.asked(), 0);
        Due.is("before: upper", x.upper(), 0);
        Due.is("before: lower", x.lower(), 1);
        LuckJars y = Due.placed("h3405 w2311");
        y.day();
        y.keep(0);
        y.lots(3, 8);
        Due.is("before any that tells: asked", y.asked(), 0);
        Due.is("before any that tells: upper", y.upper(), 0);
        Due.is("before any that tells: lower", y.lower(), 1);
    }

    private static void tellsBy(String call, ToLongFunction<LuckJars> calling, int want) {
        LuckJars x = Edge.busy();
        Due.is(call + " is not refused", calling.applyAsLong(x) >= 0 ? 1 : 0, 1);
        Due.is(call + " told", x.asked(), want);
    }

    // "What the latest lay(), at(), mean(), house(), spring(), works(), later(), when(), lacks(), share(), best(),
    // lending(), greedy(), test(), jars() ... told"
    private static void askedByEach() {
        tellsBy("lay", x -> x.lay(1, 1, 5), -8);
        tellsBy("at", x -> x.at(1, 2), 9);
        tellsBy("mean", x -> x.mean(1), 2);
        tellsBy("house", x -> x.house(1, 3), 13);
        tellsBy("spring", LuckJars::spring, 3);
        tellsBy("works", LuckJars::works, 4);
        tellsBy("later", x -> x.later(6, 0), 6);
        tellsBy("when", x -> x.when(0), 20);
        tellsBy("lacks", x -> x.lacks(0), 20);
        tellsBy("share", LuckJars::share, 3);
        tellsBy("best", LuckJars::best, 6);
        tellsBy("lending", x -> x.lending(5), 5);
        tellsBy("greedy", x -> x.greedy(41), 0);
        tellsBy("test", x -> x.test(0, 2), 1);
        tellsBy("jars", x -> x.jars(5, 1), 3);
        LuckJars latest = Edge.busy();
        latest.at(1, 0);
        latest.house(1, 3);
        latest.at(1, 2);
        Due.is("asked: the latest", latest.asked(), 9);
        Due.is("asked: twice", latest.asked(), 9);
        latest.jars(0, 0);
        Due.is("asked: 0 is told, too", latest.asked(), 0);
    }

    // "that was not refused"
    private static void askedStaysByRefused() {
        Edge.found("asked: lay", Edge::busy, Due.BEYOND, x -> x.lay(1, 3, 5));
        Edge.found("asked: at", Edge::busy, Due.NOTHING, x -> x.at(5, 0));
        Edge.found("asked: mean", Edge::busy, Due.NOUGHT, x -> x.mean(2));
        Edge.refused("asked: house", Edge::busy, LuckJars.BAD, x -> x.house(0, 7));
        Edge.refused("asked: spring", Edge::full, LuckJars.FULL, LuckJars::spring);
        Edge.refused("asked: later", Edge::busy, LuckJars.BAD, x -> x.later(0, 61));
        Edge.refused("asked: when", Edge::busy, LuckJars.BAD, x -> x.when(7));
        Edge.refused("asked: lacks", Edge::busy, LuckJars.BAD, x -> x.lacks(-1));
        Edge.refused("asked: lending", Edge::busy, LuckJars.BAD, x -> x.lending(100));
        Edge.refused("asked: greedy", Edge::busy, LuckJars.BAD, x -> x.greedy(1000));
        Edge.found("asked: test", Edge::busy, Due.SIZE, x -> x.test(0, 1));
        Edge.refused("asked: jars", Edge::busy, LuckJars.BAD, x -> x.jars(0, 301));
    }

    // "(nor answered NONE)"
    private static void askedStaysByNone() {
        Edge.refused("asked: when none", Edge::busy, LuckJars.NONE, x -> x.when(6));
        Edge.refused("asked: lending none", Edge::busy, LuckJars.NONE, x -> x.lending(99));
        Edge.refused("asked: greedy none", Edge::busy, LuckJars.NONE, x -> x.greedy(999));
        Edge.refused("asked: jars none", Edge::busy, LuckJars.NONE, x -> x.jars(1, 0));
    }

    // No other call tells by asked().
    private static void askedStaysByOthers() {
        LuckJars x = Edge.busy();
        x.row(5, 3);
        x.copy(1, 0, 5, 0, 3);
        x.tear(5);
        x.text(1, 5);
        x.put(1, 0, 9);
        x.fault(1);
        x.mark(1, 1);
        x.worth(0, 50);
        x.day();
        x.lend(0, 1, 1);
        x.leave(0, 1);
        x.take(0, 1);
        x.undo(2);
        x.keep(0);
        x.on(1);
        x.kinds(0, 0);
        x.duel(0, 1, 2);
        x.odds(1, 1);
        x.mid(1);
        x.lots(5, 8);
        x.upper();
        x.lower();
        x.count(4);
        x.finding();
        x.findings(1);
        x.digest();
        x.place(0);
        Due.is("asked: stays by all others", x.asked(), 23);
        Due.is("asked: none of them was refused", x.finding(), 0);
    }

    // "The upper number that was told last"; "Its lower number"
    private static void upperAndLowerStay() {
        LuckJars x = Due.placed("h5100 h0900");
        x.odds(1, 8);
        x.odds(8, 8);
        x.odds(1, 13);
        x.mid(-1);
        x.house(0, 3);
        x.day();
        x.share();
        x.place(0);
        Due.is("upper: stays", x.upper(), 1);
        Due.is("lower: stays", x.lower(), 3);
        x.mid(3);
        Due.is("upper: told by mid", x.upper(), 3);
        Due.is("lower: told by mid", x.lower(), 4);
        x.odds(7, 3);
        Due.is("upper: 0", x.upper(), 0);
        Due.is("lower: by 1", x.lower(), 1);
    }

    // "0 HOUSES, 1 the DAY, 2 DEEDS, ... 11 GAMBLERS (CATS, too)": all of them, and all full
    private static void countBounds() {
        LuckJars x = Due.placed("o9099o9099o9099o9099w9099c9099c9099");
        for (int r = 0; r < 6; r++) {
            x.row(r, 0);
        }
        for (int t = 0; t < 4; t++) {
            x.text(t, 0);
        }
        for (int k = 0; k < 3; k++) {
            x.keep(k);
        }
        for (int deed = 0; deed < 40; deed++) {
            x.day();
        }
        int[] want = {7, 40, 40, 0, 693, 7, 49 + 99 + 99, 6, 4, 3, 5, 2};
        for (int what = 0; what < 12; what++) {
            Due.is("count: all, " + what, x.count(what), want[what]);
        }
        x.tear(0);
        Due.is("count: a row less", x.count(7), 5);
        LuckJars none = Due.placed("h0900 k0900");
        int[] nothing = {2, 0, 0, 0, 0, 0, 0, 0, 1, 0, 0, 0};
        for (int what = 0; what < 12; what++) {
            Due.is("count: next to nothing, " + what, none.count(what), nothing[what]);
        }
    }

    private static void countWithoutHouses() {
        for (int what = 0; what < 12; what++) {
            Due.is("count: without houses, " + what, new LuckJars().count(what), 0);
        }
    }

    // count: "BAD."
    private static void countRefused() {
        for (int what : Edge.beyond(0, 11)) {
            Edge.refused("count " + what, Edge::busy, LuckJars.BAD, x -> x.count(what));
            Edge.refused("count " + what + " of a new one", LuckJars::new, LuckJars.BAD, x -> x.count(what));
        }
    }

    // "The latest FINDING (0 before any)."
    private static void findingBefore() {
        Due.is("finding: new", new LuckJars().finding(), 0);
        LuckJars x = Edge.busy();
        x.house(7, 0);
        x.lend(6, 0, 1);
        x.when(6);
        x.place(2);
        Due.is("finding: other refusals are none", x.finding(), 0);
        for (int f = 1; f <= 5; f++) {
            Due.is("findings: other refusals are none " + f, x.findings(f), 0);
        }
    }

    // What is well leaves the latest FINDING as it is, other refusals, too.
    private static void findingStays() {
        LuckJars x = Edge.busy();
        Due.finds("finding: beyond", x, x.at(1, 3), Due.BEYOND);
        x.at(1, 2);
        x.house(7, 0);
        x.when(6);
        x.lend(6, 0, 1);
        x.place(0);
        Due.is("finding: stays", x.finding(), Due.BEYOND);
        Due.finds("finding: the latest", x, x.mean(2), Due.NOUGHT);
        Due.is("findings: beyond", x.findings(Due.BEYOND), 1);
        Due.is("findings: nought", x.findings(Due.NOUGHT), 1);
    }

    // "How often a FINDING (1 .. 5) was answered."
    private static void findingsOfEach() {
        LuckJars x = Edge.busy();
        for (int k = 0; k < 5; k++) {
            x.row(0, -1);
            if (k > 0) {
                x.mean(2);
            }
            if (k > 1) {
                x.mark(0, 1);
            }
            if (k > 2) {
                x.lay(1, 3, 0);
            }
            if (k > 3) {
                x.on(0);
            }
        }
        for (int f = 1; f <= 5; f++) {
            Due.is("findings: " + f, x.findings(f), f);
        }
        Due.is("findings: looked at, they stay", x.findings(3), 3);
        Due.is("finding: the last", x.finding(), Due.NOTHING);
    }

    // findings: "BAD."
    private static void findingsRefused() {
        for (int f : Edge.beyond(1, 5)) {
            Edge.refused("findings " + f, Edge::busy, LuckJars.BAD, x -> x.findings(f));
        }
    }

    private static void findingsOfMany() {
        LuckJars x = new LuckJars();
        for (int k = 0; k < 500; k++) {
            x.at(0, 0);
        }
        Due.is("findings: five hundred", x.findings(Due.NOTHING), 500);
        Due.is("findings: none else", x.findings(Due.BEYOND) + x.findings(Due.UNLIKE), 0);
    }

    private static long fold(long h, int... values) {
        long folded = h;
        for (int v : values) {
            folded = 31 * folded + v;
        }
        return folded;
    }

    // "(-1: missing)": of kept PLACES, ROWS, TEXTS
    private static void digestOfMissing() {
        long want = fold(17, 0, 0, 0, 0, 0, 0, 0, 0, 0, 0, 0, 0);
        want = fold(want, -1, -1, -1);
        want = fold(want, -1, -1, -1, -1, -1, -1);
        want = fold(want, -1, -1, -1, -1);
        LuckJars x = new LuckJars();
        Due.is("digest: of a new one", x.digest(), want);
        x.row(0, 3);
        x.tear(0);
        Due.is("digest: torn is missing", x.digest(), want);
    }

    // An empty ROW or TEXT, a kept PLACE without DEEDS has 0, and is not missing.
    private static void digestOfEmpty() {
        LuckJars x = Due.placed("h0900 k0900");
        x.text(0, 0);
        x.text(3, 0);
        x.row(0, 0);
        x.row(5, 0);
        x.keep(2);
        long want = fold(17, 2, 0, 0, 0, 0, 0, 0, 2, 2, 1, 0, 0);
        want = fold(want, 0, 0, 9, 0, 0, 0, 0);
        want = fold(want, 3, 0, 9, 0, 0, 0, 0);
        want = fold(want, -1, -1, 0);
        want = fold(want, 0, -1, -1, -1, -1, 0);
        want = fold(want, 0, -1, -1, 0);
        Due.is("digest: of empty ones", x.digest(), want);
    }

    // "of each ROW its size (-1: missing) and places, of each TEXT likewise": the longest
    private static void digestOfLongest() {
        LuckJars x = new LuckJars();
        x.row(5, 40);
        x.text(3, 60);
        long want = fold(17, 0, 0, 0, 0, 0, 0, 0, 1, 1, 0, 0, 0);
        want = fold(want, -1, -1, -1);
        want = fold(want, -1, -1, -1, -1, -1, 40);
        for (int i = 0; i < 40; i++) {
            x.lay(5, i, i - 20);
            want = fold(want, i - 20);
        }
        want = fold(want, -1, -1, -1, 60);
        for (int i = 0; i < 60; i++) {
            x.put(3, i, i * 5);
            want = fold(want, (byte) (i * 5));
        }
        Due.is("digest: of the longest", x.digest(), want);
    }

    // "h = 31 h + v": as longs do, it goes round
    private static void digestGoesRound() {
        java.math.BigInteger h = java.math.BigInteger.valueOf(17);
        int[] all = {0, 0, 0, 0, 0, 0, 0, 1, 0, 0, 0, 0, -1, -1, -1, 2, Due.LEAST, Due.MOST, -1, -1, -1, -1, -1, -1, -1,
            -1, -1};
        for (int v : all) {
            h = h.multiply(java.math.BigInteger.valueOf(31)).add(java.math.BigInteger.valueOf(v));
        }
        Due.is("digest: beyond a long", h.bitLength() > 63 ? 1 : 0, 1);
        LuckJars x = new LuckJars();
        Due.row(x, 0, Due.LEAST, Due.MOST);
        Due.is("digest: goes round", x.digest(), h.longValue());
    }

    // "(of a call that tells by asked(): what it tells, not the 1 that it answers; asked() stays)"
    private static void digestTellsNothing() {
        LuckJars x = Edge.busy();
        long first = x.digest();
        Due.is("digest: asked stays", x.asked(), 23);
        Due.is("digest: twice", x.digest() == first ? 1 : 0, 1);
        Due.is("digest: finding stays", x.finding(), 0);
    }

    // "An object is used for at most 512 calls after it has been made"
    private static void toTheLastCall() {
        LuckJars x = Due.placed("h1000 h0000");
        int calls = 13;
        while (calls < 509) {
            calls += 2;
            Due.is("call " + calls, x.day() > 0 && x.undo(0) == 1 ? 1 : 0, 1);
        }
        Due.is("the 510th call", x.count(2), 0);
        Due.is("the 511th call", x.count(1), 0);
        Due.is("the 512th call", x.day(), 1);
    }
}
