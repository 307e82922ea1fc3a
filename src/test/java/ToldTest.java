/** Promises 38 to 44: asked, upper, lower, count, finding, findings, digest; and the constants. */
public final class ToldTest {
    public static void main(String[] args) {
        constants();
        asked();
        upperAndLower();
        count();
        findings();
        digestOfNew();
        digest();
        Due.end("ToldTest");
    }

    private static void constants() {
        Due.is("BAD", LuckJars.BAD, -1);
        Due.is("FULL", LuckJars.FULL, -2);
        Due.is("FINDING", LuckJars.FINDING, -3);
        Due.is("STATE", LuckJars.STATE, -4);
        Due.is("SPENT", LuckJars.SPENT, -6);
        Due.is("NONE", LuckJars.NONE, -9);
    }

    private static void asked() {
        LuckJars x = Due.placed("h3405 w2311");
        Due.is("asked: before", x.asked(), 0);
        x.house(1, 3);
        Due.is("asked: house", x.asked(), 11);
        x.worth(0, 50);
        x.mark(1, 1);
        x.day();
        x.lend(1, 0, 2);
        x.leave(0, 2);
        x.take(1, 1);
        x.keep(0);
        x.on(0);
        x.undo(0);
        x.duel(0, 1, 2);
        x.odds(1, 3);
        x.mid(3);
        x.lots(2, 7);
        x.row(1, 0);
        x.kinds(0, 1);
        x.tear(1);
        x.fault(0);
        x.place(0);
        x.count(4);
        x.digest();
        x.findings(1);
        Due.is("asked: stays", x.asked(), 11);
        x.mean(1);
        x.at(1, 0);
        x.house(9, 0);
        x.jars(0, 300);
        x.greedy(999);
        Due.is("asked: stays by refused and none", x.asked(), 11);
    }

    private static void upperAndLower() {
        LuckJars x = Due.placed("h5100 h0005");
        Due.is("upper: before", x.upper(), 0);
        Due.is("lower: before", x.lower(), 1);
        x.odds(2, 8);
        Due.is("upper: odds", x.upper(), 1);
        Due.is("lower: odds", x.lower(), 3);
        x.mid(8);
        Due.is("upper: mid", x.upper(), 4);
        Due.is("lower: mid", x.lower(), 3);
        x.odds(8, 8);
        x.mid(13);
        x.day();
        Due.is("upper: stays", x.upper(), 4);
        Due.is("lower: stays", x.lower(), 3);
        x.odds(7, 3);
        Due.is("upper: nought", x.upper(), 0);
        Due.is("lower: nought", x.lower(), 1);
    }

    private static void count() {
        LuckJars x = Due.placed("h3405 w2311 g1618 k4215 o1922 c2309 o0100");
        x.day();
        x.leave(2, 4);
        x.keep(2);
        x.row(0, 3);
        x.row(4, 0);
        x.text(3, 0);
        int[] want = {7, 1, 2, 4, 89, 6, 8 + 6 + 15 + 12 + 0 + 0 + 0, 2, 2, 1, 3, 2};
        for (int what = 0; what < 12; what++) {
            Due.is("count " + what, x.count(what), want[what]);
        }
        LuckJars y = Due.placed("w3405 c2311");
        Due.is("count: a widow first", y.count(10), 1);
        Due.is("count: a cat last", y.count(11), 1);
        Due.is("count: -1", x.count(-1), LuckJars.BAD);
        Due.is("count: 12", x.count(12), LuckJars.BAD);
        Due.is("count: most", x.count(Due.MOST), LuckJars.BAD);
    }

    private static void findings() {
        LuckJars x = Due.placed("h3405 w2311");
        Due.finds("nothing", x, x.tear(0), Due.NOTHING);
        Due.finds("nothing again", x, x.on(1), Due.NOTHING);
        Due.finds("size", x, x.row(0, -1), Due.SIZE);
        x.row(0, 0);
        Due.finds("nought", x, x.mean(0), Due.NOUGHT);
        Due.finds("beyond", x, x.at(0, 0), Due.BEYOND);
        Due.finds("unlike", x, x.mark(0, 1), Due.UNLIKE);
        Due.finds("unlike again", x, x.mark(1, 5), Due.UNLIKE);
        Due.is("findings: nothing", x.findings(1), 2);
        Due.is("findings: beyond", x.findings(2), 1);
        Due.is("findings: unlike", x.findings(3), 2);
        Due.is("findings: nought", x.findings(4), 1);
        Due.is("findings: size", x.findings(5), 1);
        Due.is("findings: 0", x.findings(0), LuckJars.BAD);
        Due.is("findings: 6", x.findings(6), LuckJars.BAD);
        Due.is("findings: -1", x.findings(-1), LuckJars.BAD);
        x.take(0, 5);
        x.lend(0, 0, 1);
        x.day();
        Due.is("finding: stays", x.finding(), Due.UNLIKE);
    }

    private static long fold(long h, int... values) {
        long folded = h;
        for (int v : values) {
            folded = 31 * folded + v;
        }
        return folded;
    }

    private static void digestOfNew() {
        long want = fold(17, 0, 0, 0, 0, 0, 0, 0, 0, 0, 0, 0, 0, -1, -1, -1, -1, -1, -1, -1, -1, -1, -1, -1, -1, -1);
        Due.is("digest: new", new LuckJars().digest(), want);
    }

    private static void digest() {
        LuckJars x = Due.placed("h3405 w2311");
        Due.row(x, 1, 5, -6);
        x.row(5, 0);
        x.text(2, 2);
        x.put(2, 1, -7);
        x.day();
        x.keep(1);
        x.leave(1, 3);
        x.house(1, 2);
        long h = fold(17, 2, 1, 2, 3, 18, 0, 8 + 5, 2, 2, 1, 1, 0);
        h = fold(h, 0, 3, 4, 8, 8, 8, 0, 1, 2, 3, 10, 5, 13, 0);
        h = fold(h, -1, 1, -1);
        h = fold(h, -1, 2, 5, -6, -1, -1, -1, 0);
        h = fold(h, 11, 'h', '3', '4', '0', '5', ' ', 'w', '2', '3', '1', '1', -1, 2, 32, -7, -1);
        Due.is("digest", x.digest(), h);
        Due.is("digest: asked stays", x.asked(), 3);
        Due.is("digest: again", x.digest(), h);
    }
}
