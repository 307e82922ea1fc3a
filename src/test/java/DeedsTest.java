/** Promises 15 to 22: day, spring, lend, leave, take, undo, keep, on. */
public final class DeedsTest {
    public static void main(String[] args) {
        day();
        spring();
        springOnOddDay();
        springBeyondTheJar();
        lend();
        leave();
        take();
        undo();
        keepAndOn();
        keepRefused();
        full();
        withoutHouses();
        Due.end("DeedsTest");
    }

    private static void jars(String call, LuckJars x, int... want) {
        for (int i = 0; i < want.length; i++) {
            Due.tells(call + ": jar " + i, x, x.house(i, 3), want[i]);
        }
    }

    private static void day() {
        LuckJars x = Due.placed("h3405 w9098 g0018 c9090");
        Due.is("day", x.day(), 1);
        jars("day", x, 8, 99, 18, 99);
        Due.is("day: quay", x.count(3), 0);
        Due.is("day: deeds", x.count(2), 1);
        Due.is("day: second", x.day(), 2);
        jars("day: second", x, 11, 99, 18, 99);
    }

    private static void spring() {
        LuckJars x = Due.placed("h3405 w2311 g1618 k4215 o1922 c2309 h0100");
        Due.both("spring", x, x.spring(), 6, 3);
        jars("spring", x, 6, 12, 6, 13, 28, 6, 6);
        Due.is("spring: quay", x.count(3), 3);
        Due.is("spring: day", x.count(1), 0);
        Due.is("spring: deeds", x.count(2), 1);
        Due.both("spring with the quay", x, x.spring(), 5, 4);
        jars("spring with the quay", x, 5, 11, 5, 12, 33, 5, 5);
    }

    private static void springOnOddDay() {
        LuckJars x = Due.placed("c0009 h0004");
        x.day();
        Due.both("spring: odd", x, x.spring(), 2, 0);
        jars("spring: odd", x, 11, 2);
        x.day();
        Due.both("spring: even", x, x.spring(), 6, 1);
        jars("spring: even", x, 6, 6);
    }

    private static void springBeyondTheJar() {
        LuckJars x = Due.placed("o9999 g9999 k9999 h9999 c9099 w0999 h0900");
        Due.both("spring: beyond", x, x.spring(), 62, 79);
        jars("spring: beyond", x, 99, 62, 69, 62, 62, 99, 62);
    }

    private static void lend() {
        LuckJars x = Due.placed("h3420 w2390 g1618");
        Due.is("lend", x.lend(0, 2, 7), 25);
        jars("lend", x, 13, 90, 25);
        Due.is("lend: all, beyond", x.lend(0, 1, 13), 99);
        jars("lend: beyond", x, 0, 99, 25);
        Due.is("lend: quay", x.count(3), 4);
        Due.is("lend: 99", x.lend(1, 0, 99), 99);
        Due.is("lend: deeds", x.count(2), 3);
        Due.is("lend: not so much", x.lend(1, 0, 1), LuckJars.STATE);
        Due.is("lend: one more", x.lend(2, 1, 26), LuckJars.STATE);
        Due.is("lend: itself", x.lend(2, 2, 1), LuckJars.BAD);
        Due.is("lend: -1", x.lend(-1, 2, 1), LuckJars.BAD);
        Due.is("lend: 3", x.lend(3, 2, 1), LuckJars.BAD);
        Due.is("lend: to -1", x.lend(2, -1, 1), LuckJars.BAD);
        Due.is("lend: to 3", x.lend(2, 3, 1), LuckJars.BAD);
        Due.is("lend: none", x.lend(2, 1, 0), LuckJars.BAD);
        Due.is("lend: 100", x.lend(2, 1, 100), LuckJars.BAD);
        Due.is("lend: refused is no deed", x.count(2), 3);
    }

    private static void leave() {
        LuckJars x = Due.placed("h3420 w2399");
        Due.is("leave", x.leave(0, 7), 7);
        Due.is("leave: 99", x.leave(1, 99), 106);
        Due.is("leave: the rest", x.leave(0, 13), 119);
        jars("leave", x, 0, 0);
        Due.is("leave: not so much", x.leave(0, 1), LuckJars.STATE);
        Due.is("leave: none", x.leave(0, 0), LuckJars.BAD);
        Due.is("leave: 100", x.leave(0, 100), LuckJars.BAD);
        Due.is("leave: -1", x.leave(-1, 1), LuckJars.BAD);
        Due.is("leave: 2", x.leave(2, 1), LuckJars.BAD);
        Due.is("leave: deeds", x.count(2), 3);
    }

    private static void take() {
        LuckJars x = Due.placed("h3440 w2390");
        x.leave(0, 30);
        Due.is("take", x.take(1, 9), 99);
        Due.is("take: quay", x.count(3), 21);
        Due.is("take: beyond", x.take(1, 1), LuckJars.STATE);
        Due.is("take: not so much", x.take(0, 22), LuckJars.STATE);
        Due.is("take: all", x.take(0, 21), 31);
        Due.is("take: none there", x.take(0, 1), LuckJars.STATE);
        Due.is("take: none", x.take(0, 0), LuckJars.BAD);
        Due.is("take: 100", x.take(0, 100), LuckJars.BAD);
        Due.is("take: -1", x.take(-1, 1), LuckJars.BAD);
        Due.is("take: 2", x.take(2, 1), LuckJars.BAD);
        Due.is("take: deeds", x.count(2), 3);
        LuckJars y = Due.placed("h0099 h0000");
        y.leave(0, 99);
        Due.is("take: 99", y.take(1, 99), 99);
    }

    private static void undo() {
        LuckJars x = Due.placed("h3405 w2311 c1230");
        x.day();
        x.lend(2, 0, 6);
        x.leave(1, 3);
        x.spring();
        Due.is("undo: none", x.undo(4), 0);
        Due.is("undo: one", x.undo(3), 1);
        jars("undo: one", x, 14, 10, 25);
        Due.is("undo: quay", x.count(3), 3);
        Due.is("undo: too many", x.undo(4), LuckJars.BAD);
        Due.is("undo: -1", x.undo(-1), LuckJars.BAD);
        Due.is("undo: two", x.undo(1), 2);
        jars("undo: two", x, 8, 13, 31);
        Due.is("undo: quay again", x.count(3), 0);
        Due.is("undo: day stays", x.count(1), 1);
        Due.is("undo: goes on", x.day(), 2);
        Due.is("undo: all", x.undo(0), 2);
        jars("undo: all", x, 5, 11, 30);
        Due.is("undo: day", x.count(1), 0);
        Due.is("undo: deeds", x.count(2), 0);
    }

    private static void keepAndOn() {
        LuckJars x = Due.placed("h3405 w2311");
        Due.is("keep: no deeds", x.keep(2), 0);
        x.day();
        x.leave(1, 3);
        Due.is("keep", x.keep(0), 2);
        Due.is("keep: count", x.count(9), 2);
        x.day();
        x.day();
        x.spring();
        Due.is("on", x.on(0), 2);
        jars("on", x, 8, 10);
        Due.is("on: day", x.count(1), 1);
        Due.is("on: quay", x.count(3), 3);
        Due.is("on: deeds", x.count(2), 2);
        Due.is("on: undo", x.undo(1), 1);
        jars("on: undo", x, 8, 13);
        Due.is("on: undone", x.undo(0), 1);
        jars("on: undone", x, 5, 11);
        Due.is("on: the kept one stays", x.on(0), 2);
        jars("on: again", x, 8, 10);
        x.undo(0);
        x.leave(0, 5);
        x.lend(1, 0, 2);
        x.day();
        Due.is("on: behind other deeds", x.on(0), 2);
        jars("on: behind other deeds", x, 8, 10);
        Due.is("on: quay behind other deeds", x.count(3), 3);
        Due.is("on: back behind other deeds", x.undo(1), 1);
        jars("on: back behind other deeds", x, 8, 13);
        x.on(0);
        Due.is("keep: over", x.undo(1), 1);
        Due.is("keep: over", x.keep(0), 1);
        Due.is("on: another", x.on(2), 0);
        jars("on: another", x, 5, 11);
        Due.is("on: kept over", x.on(0), 1);
        jars("on: kept over", x, 8, 13);
    }

    private static void keepRefused() {
        LuckJars x = Due.placed("h3405 w2311");
        Due.is("keep: -1", x.keep(-1), LuckJars.BAD);
        Due.is("keep: 3", x.keep(3), LuckJars.BAD);
        Due.is("on: -1", x.on(-1), LuckJars.BAD);
        Due.is("on: 3", x.on(3), LuckJars.BAD);
        for (int k = 0; k < 3; k++) {
            Due.finds("on: missing " + k, x, x.on(k), Due.NOTHING);
            Due.is("keep " + k, x.keep(k), 0);
            Due.is("on " + k, x.on(k), 0);
        }
    }

    private static void full() {
        LuckJars x = Due.placed("h0050 w0000");
        for (int deed = 0; deed < 39; deed++) {
            Due.is("full: day", x.day(), deed + 1);
        }
        Due.is("full: the last one", x.leave(0, 2), 2);
        Due.is("full: deeds", x.count(2), 40);
        Due.is("full: day", x.day(), LuckJars.FULL);
        Due.is("full: spring", x.spring(), LuckJars.FULL);
        Due.is("full: lend", x.lend(0, 1, 5), LuckJars.FULL);
        Due.is("full: leave", x.leave(0, 5), LuckJars.FULL);
        Due.is("full: take", x.take(0, 1), LuckJars.FULL);
        Due.is("full: behind bad", x.lend(0, 0, 5), LuckJars.BAD);
        Due.is("full: lend behind state", x.lend(1, 0, 5), LuckJars.STATE);
        Due.is("full: leave behind state", x.leave(1, 5), LuckJars.STATE);
        Due.is("full: take behind state", x.take(1, 5), LuckJars.STATE);
        Due.is("full: keep", x.keep(0), 40);
        Due.is("full: undo", x.undo(0), 40);
        jars("full: undo", x, 50, 0);
        Due.is("full: on", x.on(0), 40);
        jars("full: on", x, 48, 0);
        Due.is("full: undo one", x.undo(39), 1);
        Due.both("full: spring then", x, x.spring(), 25, 0);
    }

    private static void withoutHouses() {
        LuckJars x = new LuckJars();
        Due.is("without: day", x.day(), LuckJars.STATE);
        Due.is("without: spring", x.spring(), LuckJars.STATE);
        Due.is("without: lend", x.lend(0, 1, 1), LuckJars.BAD);
        Due.is("without: leave", x.leave(0, 1), LuckJars.BAD);
        Due.is("without: take", x.take(0, 1), LuckJars.BAD);
        Due.is("without: undo", x.undo(0), 0);
        Due.is("without: undo 1", x.undo(1), LuckJars.BAD);
        Due.is("without: keep", x.keep(1), LuckJars.STATE);
        Due.is("without: keep 3", x.keep(3), LuckJars.BAD);
        Due.finds("without: on", x, x.on(1), Due.NOTHING);
        Due.is("without: on 3", x.on(3), LuckJars.BAD);
    }
}
