/** Promises 23 to 30: works, later, when, lacks, share, best, lending, greedy. */
public final class ComingTest {
    private static final String ALL_KINDS = "h3405 w2311 g1618 k4215 o1922 c2309 h0100";

    public static void main(String[] args) {
        works();
        later();
        when();
        lacks();
        share();
        best();
        lending();
        greedy();
        withoutHouses();
        Due.end("ComingTest");
    }

    private static void works() {
        LuckJars x = Due.placed(ALL_KINDS);
        Due.both("works", x, x.works(), 28, 3);
        x.day();
        Due.both("works: a day later", x, x.works(), 62, 5);
        LuckJars y = Due.placed("h0000 h0100");
        Due.both("works: no hard one", y, y.works(), 1, 1);
    }

    private static void later() {
        LuckJars x = Due.placed(ALL_KINDS);
        Due.both("later: now", x, x.later(0, 0), 5, 6);
        Due.both("later: 3 days", x, x.later(0, 3), 14, 9);
        Due.both("later: greedy", x, x.later(3, 2), 23, 16);
        Due.both("later: a cat on an odd day", x, x.later(5, 1), 11, 17);
        Due.both("later: 60 days", x, x.later(4, 60), 82, 99);
        Due.is("later: aside", x.count(1) + x.count(2) + x.count(3), 0);
        x.leave(2, 14);
        Due.both("later: with the quay", x, x.later(6, 0), 0, 6);
        Due.is("later: -1", x.later(-1, 0), LuckJars.BAD);
        Due.is("later: 7", x.later(7, 0), LuckJars.BAD);
        Due.is("later: 61", x.later(0, 61), LuckJars.BAD);
        Due.is("later: -1 days", x.later(0, -1), LuckJars.BAD);
        Due.is("later: asked stays", x.asked(), 6);
    }

    private static void when() {
        LuckJars x = Due.placed(ALL_KINDS);
        Due.both("when", x, x.when(0), 5, 20);
        Due.both("when: now", x, x.when(3), 0, 15);
        Due.both("when: an old one", x, x.when(4), 0, 50);
        Due.is("when: never", x.when(6), LuckJars.NONE);
        Due.is("when: asked stays", x.asked(), 50);
        Due.is("when: -1", x.when(-1), LuckJars.BAD);
        Due.is("when: 7", x.when(7), LuckJars.BAD);
        LuckJars y = Due.placed("h1960 h1400 k9521 g1960 k5417 h9901");
        Due.both("when: now, over", y, y.when(0), 0, 60);
        Due.both("when: day 20", y, y.when(1), 20, 20);
        Due.is("when: turned", y.when(2), LuckJars.NONE);
        Due.is("when: beyond 20 at once", y.when(4), LuckJars.NONE);
        Due.both("when: 5 days", y, y.when(5), 5, 46);
        for (int deed = 0; deed < 20; deed++) {
            y.day();
        }
        Due.both("when: from later on", y, y.when(1), 0, 20);
        LuckJars z = Due.placed("h1900 w1900");
        Due.both("when: 45 days", z, z.when(0), 45, 45);
        Due.both("when: 42 days", z, z.when(1), 42, 45);
        Due.is("when: aside", z.count(1), 0);
        for (int n = 0; n <= 60; n++) {
            Due.is("later: day by day " + n, z.later(0, n), n);
        }
    }

    private static void lacks() {
        LuckJars x = Due.placed(ALL_KINDS);
        Due.both("lacks", x, x.lacks(0), 15, 20);
        Due.both("lacks: a widow", x, x.lacks(1), 1, 15);
        Due.both("lacks: nothing", x, x.lacks(3), 0, 15);
        Due.both("lacks: a cat", x, x.lacks(5), 1, 15);
        Due.both("lacks: without finding", x, x.lacks(6), 5, 5);
        Due.is("lacks: -1", x.lacks(-1), LuckJars.BAD);
        Due.is("lacks: 7", x.lacks(7), LuckJars.BAD);
        LuckJars y = Due.placed("k0417 k0517 k0421 k0025");
        Due.both("lacks: greedy", y, y.lacks(0), 3, 20);
        Due.is("lacks: greedy, too hard", y.lacks(1), LuckJars.NONE);
        Due.is("lacks: turned", y.lacks(2), LuckJars.NONE);
        Due.is("lacks: asked stays", y.asked(), 20);
        Due.both("lacks: turned, not hard", y, y.lacks(3), 0, 0);
        LuckJars z = Due.placed("h0999 h0998");
        Due.both("lacks: a full jar", z, z.lacks(0), 0, 99);
    }

    private static void share() {
        LuckJars x = Due.placed("h0410 h0310 h0210 h0110 k0505 h0050");
        Due.both("share: nothing there", x, x.share(), 44, 0);
        x.leave(5, 4);
        Due.both("share: not enough", x, x.share(), 44, 0);
        x.leave(5, 1);
        Due.both("share: one", x, x.share(), 46, 5);
        x.leave(5, 9);
        Due.both("share: one by the least number", x, x.share(), 45, 10);
        x.leave(5, 1);
        Due.both("share: all but the greedy one", x, x.share(), 47, 15);
        x.leave(5, 35);
        Due.both("share: some is left", x, x.share(), 47, 15);
        Due.is("share: aside", x.count(3), 50);
        LuckJars y = Due.placed("h0401 h0402 h0403 h0099");
        y.leave(3, 18);
        Due.both("share: the least number, not the least cups", y, y.share(), 10, 18);
        y.leave(3, 18);
        Due.both("share: two by the least number", y, y.share(), 13, 36);
        LuckJars none = Due.placed("h0900 h0900");
        Due.both("share: none can be", none, none.share(), 0, 0);
        LuckJars one = Due.placed("h0900 h0000");
        Due.both("share: the second alone", one, one.share(), 2, 0);
        LuckJars two = Due.placed("h0410 h0310 h0406 h0099");
        two.leave(3, 15);
        Due.both("share: more works ahead of greater numbers", two, two.share(), 11, 15);
    }

    private static void best() {
        LuckJars x = Due.placed(ALL_KINDS);
        Due.both("best", x, x.best(), 10, 6);
        LuckJars y = Due.placed("h0000 h0000");
        Due.both("best: the first", y, y.best(), 0, 2);
        LuckJars z = Due.placed("h1400 h1400");
        Due.both("best: day 20", z, z.best(), 20, 2);
        Due.is("best: aside", z.count(1), 0);
        LuckJars late = Due.placed("h1504 h1504");
        Due.both("best: not by then", late, late.best(), 0, 0);
        LuckJars soon = Due.placed("h1505 h1505");
        Due.both("best: just by then", soon, soon.best(), 20, 2);
        LuckJars cat = Due.placed("c0920 h9100");
        Due.both("best: a cat", cat, cat.best(), 3, 2);
    }

    private static void lending() {
        LuckJars x = Due.placed(ALL_KINDS);
        Due.both("lending 5", x, x.lending(5), 1, 4);
        Due.both("lending 9", x, x.lending(9), 15, 4);
        LuckJars y = Due.placed("h0020 h0418 h0418 h0403");
        Due.both("lending: the first", y, y.lending(2), 1, 2);
        Due.is("lending: by none", y.lending(1), LuckJars.NONE);
        Due.is("lending: asked stays", y.asked(), 2);
        Due.both("lending 17", y, y.lending(17), 1, 2);
        Due.is("lending: no one has it", y.lending(21), LuckJars.NONE);
        Due.both("lending: all of it", y, y.lending(20), 1, 2);
        LuckJars greedy = Due.placed("k0421 h0505");
        Due.both("lending: rid of it", greedy, greedy.lending(1), 1, 1);
        LuckJars two = Due.placed("h0005 k0440 h0405");
        Due.both("lending: two at once", two, two.lending(20), 12, 3);
        Due.is("lending: aside", two.count(2) + two.count(3), 0);
        Due.is("lending: 0", x.lending(0), LuckJars.BAD);
        Due.is("lending: 100", x.lending(100), LuckJars.BAD);
        LuckJars back = Due.placed("h0403 h0099");
        Due.both("lending: to the first", back, back.lending(17), 10, 2);
        LuckJars full = Due.placed("h0099 w0099 h0900");
        Due.both("lending: 99", full, full.lending(99), 2, 3);
    }

    private static void greedy() {
        LuckJars x = Due.placed(ALL_KINDS);
        Due.both("greedy 53", x, x.greedy(53), 8, 20);
        Due.both("greedy 46", x, x.greedy(46), 4, 52);
        Due.is("greedy 500", x.greedy(500), LuckJars.NONE);
        Due.is("greedy: asked stays", x.asked(), 52);
        Due.is("greedy: -1", x.greedy(-1), LuckJars.BAD);
        Due.is("greedy: 1000", x.greedy(1000), LuckJars.BAD);
        Due.is("greedy: 999", x.greedy(999), LuckJars.NONE);
        LuckJars y = Due.placed("h0010 c0010");
        Due.both("greedy: none of them", y, y.greedy(20), 1, 0);
        Due.both("greedy: either", y, y.greedy(13), 2, 1);
        Due.both("greedy: both", y, y.greedy(6), 1, 3);
        y.leave(0, 1);
        Due.both("greedy: without the quay", y, y.greedy(19), 1, 0);
        y.day();
        Due.both("greedy: odd day", y, y.greedy(9), 1, 0);
        LuckJars none = Due.placed("o0007 h0005");
        Due.both("greedy: nothing", none, none.greedy(0), 2, 2);
        Due.both("greedy: a greedy cat", y, y.greedy(12), 1, 2);
    }

    private static void withoutHouses() {
        LuckJars x = new LuckJars();
        x.row(0, 1);
        x.lay(0, 0, 4);
        x.at(0, 0);
        Due.both("without: works", x, x.works(), 0, 0);
        Due.is("without: later", x.later(0, 0), LuckJars.BAD);
        Due.is("without: when", x.when(0), LuckJars.BAD);
        Due.is("without: lacks", x.lacks(0), LuckJars.BAD);
        Due.is("without: share", x.share(), LuckJars.STATE);
        Due.is("without: best", x.best(), LuckJars.STATE);
        Due.is("without: lending", x.lending(1), LuckJars.STATE);
        Due.is("without: lending 0", x.lending(0), LuckJars.BAD);
        Due.is("without: greedy", x.greedy(1), LuckJars.STATE);
        Due.is("without: greedy 1000", x.greedy(1000), LuckJars.BAD);
    }
}
