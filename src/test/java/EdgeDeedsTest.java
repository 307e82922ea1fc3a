/** The edges that "2 DAY" and promises 15 to 22 name: each method is for the sentence that stands ahead of it. */
public final class EdgeDeedsTest {
    public static void main(String[] args) {
        dayNought();
        jarsOfNinetyNine();
        dayNinetyNine();
        withoutHouses();
        springCut();
        springOfNothing();
        springBeyondTheJar();
        springOfCats();
        springKeepsTheDay();
        lentBeyond();
        lendBad();
        lendNotSoMuch();
        left();
        leaveRefused();
        taken();
        takeBad();
        takeNotSoMuch();
        quayWithoutBound();
        fortyDeeds();
        fullLast();
        undone();
        undoRefused();
        kept();
        keepRefused();
        wentOn();
        onRefused();
        Due.end("EdgeDeedsTest");
    }

    // "DAY 0 it is at first, nothing is on THE QUAY."
    private static void dayNought() {
        LuckJars x = Due.placed("h9999 h0000");
        Due.is("at first: day", x.count(1), 0);
        Due.is("at first: deeds", x.count(2), 0);
        Due.is("at first: quay", x.count(3), 0);
        Due.is("at first: nothing to take", x.take(1, 1), LuckJars.STATE);
        Due.is("the first day", x.day(), 1);
    }

    // "each HOUSE has what it FINDS more in its JAR (99 at most; what is more is lost)"
    private static void jarsOfNinetyNine() {
        LuckJars x = Due.placed("h9090 h9091 h9099 h1098 h1099 h0099 h0000");
        x.day();
        Edge.jars("day", x, 99, 99, 99, 99, 99, 99, 0);
        Due.is("day: what is more is lost", x.count(3), 0);
        x.day();
        Edge.jars("day: all full", x, 99, 99, 99, 99, 99, 99, 0);
        x.undo(1);
        x.undo(0);
        Edge.jars("day: undone", x, 90, 91, 99, 98, 99, 99, 0);
        LuckJars y = Due.placed("h9089 h1097");
        y.day();
        Edge.jars("day: one less than full", y, 98, 98);
    }

    // "a DAY goes by (99 at most)"; day: "STATE: ... or it is DAY 99"; "(FULL last.)"
    private static void dayNinetyNine() {
        LuckJars x = Edge.onDay(Due.placed("h1000 h0000"), 98);
        Due.is("day 99", x.day(), 99);
        Due.is("day 99: state", x.day(), LuckJars.STATE);
        Due.is("day 99: nothing done", x.count(1) * 100 + x.count(2), 9901);
        Due.both("day 99: a spring", x, x.spring(), 0, 1);
        Due.is("day 99: the spring's day", x.count(1), 99);
        Due.is("day 99: behind the spring", x.day(), LuckJars.STATE);
        Edge.refused("day 99", () -> Edge.onDay(Edge.busy(), 99), LuckJars.STATE, LuckJars::day);
        Edge.refused("day 99: ahead of full", () -> Edge.onDay(Edge.full(), 99), LuckJars.STATE, LuckJars::day);
        Edge.refused("day 98: full", () -> Edge.onDay(Edge.full(), 98), LuckJars.FULL, LuckJars::day);
    }

    // day, spring, keep: "STATE: no HOUSES"; others: a HOUSE's number without HOUSES is none
    private static void withoutHouses() {
        Edge.refused("without: day", LuckJars::new, LuckJars.STATE, LuckJars::day);
        Edge.refused("without: spring", LuckJars::new, LuckJars.STATE, LuckJars::spring);
        Edge.refused("without: lend", LuckJars::new, LuckJars.BAD, x -> x.lend(0, 1, 1));
        Edge.refused("without: leave", LuckJars::new, LuckJars.BAD, x -> x.leave(0, 1));
        Edge.refused("without: take", LuckJars::new, LuckJars.BAD, x -> x.take(0, 1));
        Edge.refused("without: keep", LuckJars::new, LuckJars.STATE, x -> x.keep(0));
        Edge.refused("without: undo 1", LuckJars::new, LuckJars.BAD, x -> x.undo(1));
        Due.is("without: undo 0", new LuckJars().undo(0), 0);
    }

    // "each gets as much: that shared by as many as there are, cut, into the JAR ...; what is left over ... is on THE
    // QUAY"; "together with what is on THE QUAY"
    private static void springCut() {
        LuckJars even = Due.placed("h0006 h0000 h0000");
        Due.both("spring: even", even, even.spring(), 2, 0);
        Edge.jars("spring: even", even, 2, 2, 2);
        LuckJars one = Due.placed("h0007 h0000 h0000");
        Due.both("spring: one over", one, one.spring(), 2, 1);
        LuckJars two = Due.placed("h0008 h0000 h0000");
        Due.both("spring: two over", two, two.spring(), 2, 2);
        Due.is("spring: two over, on the quay", two.count(3), 2);
        Due.is("spring: with the quay", two.leave(0, 1), 3);
        Due.both("spring: with the quay", two, two.spring(), 2, 2);
        Edge.jars("spring: with the quay", two, 2, 2, 2);
        LuckJars heel = Due.placed("w0009 k0009 o0009 c0009");
        Due.both("spring: the heel", heel, heel.spring(), 3, 3);
        Edge.jars("spring: what is not put in stays", heel, 5 + 3, 7 + 3, 9 + 3, 3);
    }

    // All put in nothing, or less than one for each.
    private static void springOfNothing() {
        LuckJars none = Due.placed("h0000 o0099");
        Due.both("spring: nothing", none, none.spring(), 0, 0);
        Edge.jars("spring: nothing", none, 0, 99);
        Due.is("spring: nothing, a deed", none.count(2), 1);
        LuckJars few = Due.placed("h0001 o0000 w0001 k0007 c0000 h0002 g0003");
        Due.both("spring: less than one for each", few, few.spring(), 0, 6);
        Edge.jars("spring: less than one for each", few, 0, 0, 1, 7, 0, 0, 0);
        LuckJars just = Due.placed("h0001 o0000 w0001 k0007 c0000 h0002 g0004");
        Due.both("spring: one for each", just, just.spring(), 1, 0);
    }

    // "into the JAR (99 at most); ... what is more is on THE QUAY"
    private static void springBeyondTheJar() {
        LuckJars just = Due.placed("o0089 h0020");
        Due.both("spring: just 99", just, just.spring(), 10, 0);
        Edge.jars("spring: just 99", just, 99, 10);
        LuckJars one = Due.placed("o0090 h0020");
        Due.both("spring: one beyond", one, one.spring(), 10, 1);
        Edge.jars("spring: one beyond", one, 99, 10);
        LuckJars full = Due.placed("o0099 h0021");
        Due.both("spring: a full jar, and one over", full, full.spring(), 10, 11);
        Edge.jars("spring: a full jar", full, 99, 10);
        LuckJars many = Due.placed("h0099 h0099");
        many.leave(0, 99);
        many.leave(1, 99);
        Due.both("spring: all of the quay", many, many.spring(), 99, 0);
        Edge.jars("spring: all of the quay", many, 99, 99);
    }

    // "a CAT as a GAMBLER, but nothing on DAYS of an odd number"
    private static void springOfCats() {
        for (int day = 0; day < 5; day++) {
            LuckJars x = Due.placed("c0010 h0000");
            for (int d = 0; d < day; d++) {
                x.day();
            }
            Due.both("spring of a cat on day " + day, x, x.spring(), day % 2 == 0 ? 5 : 0, 0);
        }
    }

    // A SPRING is no DAY; nothing is found by it.
    private static void springKeepsTheDay() {
        LuckJars x = Due.placed("h9005 h9006");
        x.day();
        Due.both("spring: no day", x, x.spring(), 14, 1);
        Due.is("spring: no day", x.count(1), 1);
        Due.is("spring: a deed", x.count(2), 2);
    }

    // "LUCK is LENT (1 .. 99, from one JAR to another one, 99 at most there: what is more is on THE QUAY)"
    private static void lentBeyond() {
        LuckJars just = Due.placed("h0010 h0089");
        Due.is("lend: just 99", just.lend(0, 1, 10), 99);
        Due.is("lend: just 99, quay", just.count(3), 0);
        LuckJars one = Due.placed("h0010 h0090");
        Due.is("lend: one beyond", one.lend(0, 1, 10), 99);
        Due.is("lend: one beyond, quay", one.count(3), 1);
        Edge.jars("lend: one beyond", one, 0, 99);
        LuckJars all = Due.placed("h0099 h0099");
        Due.is("lend: 99 to a full jar", all.lend(0, 1, 99), 99);
        Due.is("lend: 99 to a full jar, quay", all.count(3), 99);
        Edge.jars("lend: 99 to a full jar", all, 0, 99);
        LuckJars none = Due.placed("h0000 h0099");
        Due.is("lend: 99 to an empty jar", none.lend(1, 0, 99), 99);
        Due.is("lend: one", none.lend(0, 1, 1), 1);
        Edge.jars("lend: one", none, 98, 1);
    }

    // "BAD: also to itself"
    private static void lendBad() {
        for (int v : Edge.beyond(1, 99)) {
            Edge.refused("lend " + v, Edge::busy, LuckJars.BAD, x -> x.lend(4, 0, v));
        }
        for (int i : Edge.beyond(0, 6)) {
            Edge.refused("lend from " + i, Edge::busy, LuckJars.BAD, x -> x.lend(i, 0, 1));
            Edge.refused("lend to " + i, Edge::busy, LuckJars.BAD, x -> x.lend(4, i, 1));
        }
        for (int k = 0; k < 7; k++) {
            int i = k;
            Edge.refused("lend to itself " + i, Edge::busy, LuckJars.BAD, x -> x.lend(i, i, 1));
        }
        Edge.refused("lend to itself, not so much", Edge::busy, LuckJars.BAD, x -> x.lend(6, 6, 99));
    }

    // lend: "STATE: it has not so much"
    private static void lendNotSoMuch() {
        Due.is("lend: all", Edge.busy().lend(4, 6, 23), 23);
        Edge.refused("lend: one more", Edge::busy, LuckJars.STATE, x -> x.lend(4, 6, 24));
        Edge.refused("lend: of nothing", Edge::busy, LuckJars.STATE, x -> x.lend(6, 4, 1));
        Edge.refused("lend: 99", Edge::busy, LuckJars.STATE, x -> x.lend(4, 6, 99));
    }

    // "LEFT on THE QUAY (1 .. 99)"; "LEFT on THE QUAY (from a JAR): what is there then."
    private static void left() {
        LuckJars x = Due.placed("h0099 h0001");
        Due.is("leave: one", x.leave(1, 1), 1);
        Due.is("leave: 99", x.leave(0, 99), 100);
        Edge.jars("leave: all", x, 0, 0);
    }

    // leave: "BAD; STATE: it has not so much"
    private static void leaveRefused() {
        for (int v : Edge.beyond(1, 99)) {
            Edge.refused("leave " + v, Edge::busy, LuckJars.BAD, x -> x.leave(4, v));
        }
        for (int i : Edge.beyond(0, 6)) {
            Edge.refused("leave from " + i, Edge::busy, LuckJars.BAD, x -> x.leave(i, 1));
        }
        Due.is("leave: all", Edge.busy().leave(4, 23), 27);
        Edge.refused("leave: one more", Edge::busy, LuckJars.STATE, x -> x.leave(4, 24));
        Edge.refused("leave: of nothing", Edge::busy, LuckJars.STATE, x -> x.leave(6, 1));
    }

    // "taken from THE QUAY (1 .. 99; as much)"; "Taken from THE QUAY: what is in the JAR then."
    private static void taken() {
        LuckJars x = Due.placed("h0000 h0099 h0001");
        x.leave(1, 99);
        x.leave(2, 1);
        Due.is("take: 99", x.take(0, 99), 99);
        Due.is("take: 99, quay", x.count(3), 1);
        Due.is("take: one, the last", x.take(1, 1), 1);
        Due.is("take: one, quay", x.count(3), 0);
    }

    // take: "BAD"
    private static void takeBad() {
        for (int v : Edge.beyond(1, 99)) {
            Edge.refused("take " + v, Edge::busy, LuckJars.BAD, x -> x.take(4, v));
        }
        for (int i : Edge.beyond(0, 6)) {
            Edge.refused("take by " + i, Edge::busy, LuckJars.BAD, x -> x.take(i, 1));
        }
    }

    private static LuckJars thirtyOnTheQuay() {
        LuckJars x = Due.placed("h0090 h0099 h0050");
        x.leave(2, 30);
        return x;
    }

    // take: "STATE: there is not so much, or it would be more than 99"
    private static void takeNotSoMuch() {
        Due.is("take: all", thirtyOnTheQuay().take(2, 30), 50);
        Edge.refused("take: one more than there is", EdgeDeedsTest::thirtyOnTheQuay, LuckJars.STATE, x -> x.take(2, 31));
        Due.is("take: up to 99", thirtyOnTheQuay().take(0, 9), 99);
        Edge.refused("take: up to 100", EdgeDeedsTest::thirtyOnTheQuay, LuckJars.STATE, x -> x.take(0, 10));
        Edge.refused("take: a full jar", EdgeDeedsTest::thirtyOnTheQuay, LuckJars.STATE, x -> x.take(1, 1));
        Edge.refused("take: both too much", EdgeDeedsTest::thirtyOnTheQuay, LuckJars.STATE, x -> x.take(1, 99));
        Edge.refused("take: of nothing", () -> Due.placed("h0000 h0000"), LuckJars.STATE, x -> x.take(0, 1));
    }

    // "THE QUAY has no bound."
    private static void quayWithoutBound() {
        LuckJars x = Due.placed("h9099h9099h9099h9099h9099h9099h9099");
        int quay = 0;
        for (int i = 0; i < 7; i++) {
            quay += 99;
            Due.is("quay: filled by " + i, x.leave(i, 99), quay);
        }
        for (int days = 0; days < 11; days++) {
            x.day();
        }
        for (int i = 0; i < 7; i++) {
            quay += 99;
            Due.is("quay: filled again by " + i, x.leave(i, 99), quay);
        }
        Due.is("quay: 14 jars", x.count(3), 1386);
        Due.both("quay: each gets more than a jar holds", x, x.spring(), 198, 693);
        Edge.jars("quay: each gets more than a jar holds", x, 99, 99, 99, 99, 99, 99, 99);
        Due.both("quay: again", x, x.spring(), 198, 693);
        for (int i = 0; i < 7; i++) {
            x.leave(i, 99);
        }
        Due.is("quay: 14 jars again", x.count(3), 1386);
        Due.is("quay: taken from", x.take(3, 99), 99);
        Due.is("quay: less by that", x.count(3), 1287);
    }

    private static int deed(LuckJars x, int which) {
        switch (which) {
            case 0:
                return x.leave(0, 1);
            case 1:
                return x.lend(1, 2, 1);
            case 2:
                return x.take(1, 1);
            case 3:
                return x.day();
            default:
                return x.spring();
        }
    }

    // "These are DEEDS (40 at most)."
    private static void fortyDeeds() {
        for (int last = 0; last < 5; last++) {
            LuckJars x = Due.placed("h2050 h1040 h1031");
            for (int deeds = 1; deeds < 40; deeds++) {
                x.leave(0, 1);
                Due.is("deeds: each is one", x.count(2), deeds);
            }
            Due.is("deeds: the last is " + last, deed(x, last) > 0 ? 1 : 0, 1);
            Due.is("deeds: the last is " + last + ", forty", x.count(2), 40);
            for (int more = 0; more < 5; more++) {
                Due.is("deeds: no more, " + more, deed(x, more), LuckJars.FULL);
            }
            Due.is("deeds: the last is undone", x.undo(39), 1);
            Due.is("deeds: another is last", deed(x, 4 - last) > 0 ? 1 : 0, 1);
            Due.is("deeds: forty again", x.count(2), 40);
        }
        Edge.refused("full: day", Edge::full, LuckJars.FULL, LuckJars::day);
        Edge.refused("full: spring", Edge::full, LuckJars.FULL, LuckJars::spring);
        Edge.refused("full: lend", Edge::full, LuckJars.FULL, x -> x.lend(0, 1, 1));
        Edge.refused("full: leave", Edge::full, LuckJars.FULL, x -> x.leave(0, 1));
        Edge.refused("full: take", Edge::full, LuckJars.FULL, x -> x.take(1, 1));
        LuckJars x = Edge.full();
        Due.is("full: no other call is refused so", x.keep(0) + x.undo(40) + x.on(0), 80);
    }

    // "(FULL last.)": behind BAD and behind STATE
    private static void fullLast() {
        Edge.refused("full: lend, bad", Edge::full, LuckJars.BAD, x -> x.lend(0, 0, 1));
        Edge.refused("full: lend 0", Edge::full, LuckJars.BAD, x -> x.lend(0, 1, 0));
        Edge.refused("full: lend, state", Edge::full, LuckJars.STATE, x -> x.lend(1, 0, 1));
        Edge.refused("full: leave, bad", Edge::full, LuckJars.BAD, x -> x.leave(3, 1));
        Edge.refused("full: leave, state", Edge::full, LuckJars.STATE, x -> x.leave(1, 1));
        Edge.refused("full: take, bad", Edge::full, LuckJars.BAD, x -> x.take(0, 100));
        Edge.refused("full: take, state", Edge::full, LuckJars.STATE, x -> x.take(1, 3));
    }

    // "DEEDS from number n on (n 0 to how many there are: then 0) are undone: how many."
    private static void undone() {
        LuckJars x = Edge.full();
        Due.is("undo: as many as there are", x.undo(40), 0);
        Due.is("undo: as many as there are, deeds", x.count(2), 40);
        Due.is("undo: the last one", x.undo(39), 1);
        Due.is("undo: the last one, quay", x.count(3), 0);
        Due.is("undo: from 1 on", x.undo(1), 38);
        Due.is("undo: from 1 on, day", x.count(1), 1);
        Due.is("undo: the first one", x.undo(0), 1);
        Due.is("undo: day 0", x.count(1), 0);
        Due.is("undo: none there", x.undo(0), 0);
        LuckJars y = Edge.busy();
        Due.is("undo: all at once", y.undo(0), 3);
        Edge.jars("undo: all at once", y, 5, 11, 18, 15, 22, 9, 0);
        Due.is("undo: all at once, quay", y.count(3), 0);
        Due.is("undo: what is kept stays", y.count(9), 1);
        LuckJars over = Due.placed("h0010 h0095");
        over.lend(0, 1, 10);
        over.day();
        over.undo(0);
        Edge.jars("undo: what was beyond", over, 10, 95);
        Due.is("undo: what was beyond, quay", over.count(3), 0);
    }

    // undo: "BAD."
    private static void undoRefused() {
        for (int n : Edge.beyond(0, 3)) {
            Edge.refused("undo " + n, Edge::busy, LuckJars.BAD, x -> x.undo(n));
        }
        Edge.refused("undo 41 of 40", Edge::full, LuckJars.BAD, x -> x.undo(41));
        Edge.refused("undo 1 of none", () -> Due.placed("h0000 h0000"), LuckJars.BAD, x -> x.undo(1));
    }

    // "The PLACE (as it is, DEEDS) is kept in a place (0 .. 2): how many DEEDS."
    private static void kept() {
        LuckJars x = Due.placed("h1050 h0000");
        for (int k = 0; k < 3; k++) {
            Due.is("keep " + k, x.keep(k), k);
            Due.is("keep: kept places", x.count(9), k + 1);
            x.day();
        }
        for (int k = 0; k < 3; k++) {
            Due.is("on " + k, x.on(k), k);
            Edge.jars("on " + k, x, 50 + k, 0);
            Due.is("on " + k + ", day", x.count(1), k);
        }
        Due.is("keep: over another one", x.keep(0), 2);
        Due.is("keep: over another one, kept places", x.count(9), 3);
        x.undo(0);
        Due.is("on: the later one", x.on(0), 2);
        Due.is("keep: no deed", x.count(2), 2);
        LuckJars y = Edge.full();
        Due.is("keep: forty deeds", y.keep(2), 40);
        y.undo(0);
        Due.is("on: forty deeds", y.on(2), 40);
        Due.is("on: the last of forty", y.undo(39), 1);
        Due.is("on: its quay", y.count(3), 0);
    }

    // keep: "BAD; STATE: no HOUSES."
    private static void keepRefused() {
        for (int k : Edge.beyond(0, 2)) {
            Edge.refused("keep " + k, Edge::busy, LuckJars.BAD, x -> x.keep(k));
            Edge.refused("keep " + k + " without houses", LuckJars::new, LuckJars.BAD, x -> x.keep(k));
        }
        for (int kept = 0; kept < 3; kept++) {
            int k = kept;
            Edge.refused("keep " + k + ", no houses", LuckJars::new, LuckJars.STATE, x -> x.keep(k));
        }
    }

    // "The PLACE is as it was kept": whatever is done to one of them, the other one stays
    private static void wentOn() {
        LuckJars x = Due.placed("h1050 h0000");
        x.day();
        x.leave(0, 5);
        x.keep(1);
        x.undo(0);
        x.lend(0, 1, 50);
        x.spring();
        x.spring();
        Due.is("on: fewer deeds than now", x.on(1), 2);
        Edge.jars("on: fewer deeds than now", x, 46, 0);
        Due.is("on: its quay", x.count(3), 5);
        x.undo(1);
        x.lend(0, 1, 1);
        Due.is("on: again", x.on(1), 2);
        Edge.jars("on: again", x, 46, 0);
        Due.is("on: its deeds", x.undo(1), 1);
        Edge.jars("on: its deeds", x, 51, 0);
        x.undo(0);
        Edge.jars("on: its beginning", x, 50, 0);
    }

    // on: "BAD; NOTHING." "1 NOTHING (... a kept PLACE that is missing)"
    private static void onRefused() {
        for (int k : Edge.beyond(0, 2)) {
            Edge.refused("on " + k, Edge::busy, LuckJars.BAD, x -> x.on(k));
        }
        Edge.found("on 0, missing", Edge::busy, Due.NOTHING, x -> x.on(0));
        Edge.found("on 2, missing", Edge::busy, Due.NOTHING, x -> x.on(2));
        Due.is("on 1, there", Edge.busy().on(1), 2);
        Edge.found("on 0, full", Edge::full, Due.NOTHING, x -> x.on(0));
    }
}
