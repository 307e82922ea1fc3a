/** Promises 31 to 34: kinds, test, jars, duel. */
public final class KindsTest {
    private static final String ALL_KINDS = "h3405 w2311 g1618 k4215 o1922 c2309 h0100";

    public static void main(String[] args) {
        kinds();
        test();
        pairsRefused();
        jars();
        duel();
        duelRefused();
        Due.end("KindsTest");
    }

    private static void kinds() {
        LuckJars x = Due.placed(ALL_KINDS);
        Due.row(x, 0);
        Due.is("kinds: by nothing", x.kinds(0, 0), 63);
        Due.row(x, 0, 5, 5);
        Due.is("kinds: of 5", x.kinds(1, 0), 41);
        Due.row(x, 0, 5, 5, 6, 6);
        Due.is("kinds: no cat", x.kinds(2, 0), 9);
        Due.row(x, 0, 5, 5, 21, 21);
        Due.is("kinds: a house", x.kinds(6, 0), 1);
        Due.row(x, 0, 21, 0, 20, 20);
        Due.is("kinds: greedy", x.kinds(0, 0), 8);
        Due.row(x, 0, 27, 60, 4, 14);
        Due.is("kinds: old", x.kinds(0, 0), 16);
        Due.row(x, 0, 0, 0, 2, 0);
        Due.is("kinds: a cat", x.kinds(0, 0), 32);
        Due.row(x, 0, 99, 102);
        Due.is("kinds: a widow", x.kinds(0, 0), 2);
        Due.row(x, 0, 3, 6);
        Due.is("kinds: a widow or gambler", x.kinds(0, 0), 6);
        Due.row(x, 0, 5, 5, 5, 6);
        Due.is("kinds: of none", x.kinds(0, 0), 0);
        Due.row(x, 0, 0, 300, 0, 0);
        Due.is("kinds: of none by the first", x.kinds(0, 0), 0);
        Due.is("kinds: asked stays", x.asked(), 0);
    }

    private static void test() {
        LuckJars x = Due.placed(ALL_KINDS);
        Due.row(x, 0);
        Due.both("test: of all", x, x.test(0, 0), 21, 1);
        Due.row(x, 0, 5, 10);
        Due.both("test: of one", x, x.test(0, 0), 0, 1);
        Due.row(x, 0, 5, 5);
        Due.both("test: of three", x, x.test(0, 0), 21, 1);
        Due.row(x, 0, 0, 0);
        Due.both("test: of four", x, x.test(6, 0), 21, 1);
        Due.row(x, 0, 3, 6);
        Due.both("test: of two", x, x.test(0, 0), 0, 1);
        Due.row(x, 0, 5, 6);
        Due.is("test: of none", x.test(0, 0), LuckJars.NONE);
        x.house(2, 3);
        Due.is("test: of none again", x.test(0, 0), LuckJars.NONE);
        Due.is("test: asked stays", x.asked(), 18);
    }

    private static void pairsRefused() {
        LuckJars x = Due.placed("h3405 w2311");
        x.row(0, 3);
        Due.is("kinds: -1", x.kinds(-1, 0), LuckJars.BAD);
        Due.is("kinds: 2", x.kinds(2, 0), LuckJars.BAD);
        Due.is("kinds: row -1", x.kinds(0, -1), LuckJars.BAD);
        Due.is("kinds: row 6", x.kinds(0, 6), LuckJars.BAD);
        Due.is("test: -1", x.test(-1, 0), LuckJars.BAD);
        Due.is("test: 2", x.test(2, 0), LuckJars.BAD);
        Due.is("test: row -1", x.test(0, -1), LuckJars.BAD);
        Due.is("test: row 6", x.test(0, 6), LuckJars.BAD);
        Due.finds("kinds: missing", x, x.kinds(0, 5), Due.NOTHING);
        Due.finds("test: missing", x, x.test(0, 5), Due.NOTHING);
        Due.row(x, 0, -1, -1, -1);
        Due.finds("kinds: size ahead of unlike", x, x.kinds(0, 0), Due.SIZE);
        Due.finds("test: size ahead of unlike", x, x.test(0, 0), Due.SIZE);
        unlike(x, -1, 0, true);
        unlike(x, 100, 0, true);
        unlike(x, 0, -1, true);
        unlike(x, 0, 301, true);
        unlike(x, 0, 300, false);
        unlike(x, 99, 0, false);
        Due.row(x, 3, 100, 4, 4, 4);
        Due.finds("kinds: the first is unlike", x, x.kinds(0, 3), Due.UNLIKE);
        x.row(4, 40);
        Due.is("kinds: twenty pairs", x.kinds(0, 4), 45);
        x.lay(4, 39, 3);
        Due.is("kinds: the last pair", x.kinds(0, 4), 0);
        x.lay(4, 39, 301);
        Due.finds("kinds: the last is unlike", x, x.kinds(0, 4), Due.UNLIKE);
    }

    private static void unlike(LuckJars x, int jar, int worth, boolean wanted) {
        Due.row(x, 1, 4, 4, jar, worth);
        if (wanted) {
            Due.finds("kinds: unlike " + jar + ", " + worth, x, x.kinds(0, 1), Due.UNLIKE);
            Due.finds("test: unlike " + jar + ", " + worth, x, x.test(0, 1), Due.UNLIKE);
        } else {
            Due.is("kinds: " + jar + ", " + worth, x.kinds(0, 1), jar == 99 ? 8 : 0);
        }
    }

    private static void jars() {
        LuckJars x = Due.placed(ALL_KINDS);
        Due.both("jars: a house", x, x.jars(0, 99), 1, 99);
        Due.both("jars: a widow", x, x.jars(1, 3), 1, 0);
        Due.both("jars: a gambler", x, x.jars(2, 10), 1, 5);
        Due.is("jars: odd of a gambler", x.jars(2, 11), LuckJars.NONE);
        Due.both("jars: greedy", x, x.jars(3, 0), 80, 0);
        Due.both("jars: greedy 20", x, x.jars(3, 20), 1, 20);
        Due.is("jars: greedy 21", x.jars(3, 21), LuckJars.NONE);
        Due.both("jars: old", x, x.jars(4, 204), 1, 99);
        Due.both("jars: a cat", x, x.jars(5, 0), 3, 0);
        Due.both("jars: a cat's 1", x, x.jars(5, 1), 1, 3);
        Due.is("jars: 300", x.jars(4, 300), LuckJars.NONE);
        Due.is("jars: asked stays", x.asked(), 3);
        Due.is("jars: 301", x.jars(0, 301), LuckJars.BAD);
        Due.is("jars: -1", x.jars(0, -1), LuckJars.BAD);
        Due.is("jars: house -1", x.jars(-1, 0), LuckJars.BAD);
        Due.is("jars: house 7", x.jars(7, 0), LuckJars.BAD);
    }

    private static void duel() {
        LuckJars x = Due.placed("h0010 h0004 g0050 k0019 h0095");
        Due.is("duel: no turn", x.duel(0, 1, 0), 506);
        Due.is("duel: no turn, the other way", x.duel(1, 0, 0), 494);
        Due.is("duel: nothing there", x.duel(0, 1, 6), 506);
        x.leave(2, 12);
        Due.is("duel: takes 9", x.duel(0, 1, 1), 515);
        Due.is("duel: then 3", x.duel(0, 1, 2), 512);
        Due.is("duel: then nothing", x.duel(0, 1, 3), 512);
        Due.is("duel: the gambler first", x.duel(2, 0, 1), 584);
        Due.is("duel: the jar's bound", x.duel(4, 0, 1), 589);
        Due.is("duel: greedy takes none", x.duel(3, 0, 1), 509);
        Due.is("duel: greedy, from the other side", x.duel(0, 3, 1), 500);
        Due.is("duel: aside", x.count(2) * 100 + x.count(3), 112);
        LuckJars turned = Due.placed("k0025 h0000");
        Due.is("duel: leaves what has turned", turned.duel(0, 1, 1), 516);
        Due.is("duel: the other takes it", turned.duel(0, 1, 2), 507);
        LuckJars few = Due.placed("k0005 h0030");
        Due.is("duel: leaves less", few.duel(1, 0, 1), 525);
        LuckJars still = Due.placed("h0010 k0020");
        still.leave(0, 9);
        Due.is("duel: best left to lie", still.duel(1, 0, 2), 510);
        LuckJars six = Due.placed("h0000 g0000 o0099");
        six.leave(2, 50);
        Due.is("duel: six turns", six.duel(0, 1, 6), 481);
    }

    private static void duelRefused() {
        LuckJars x = Due.placed("h0010 h0004");
        Due.is("duel: -1 turns", x.duel(0, 1, -1), LuckJars.BAD);
        Due.is("duel: 7 turns", x.duel(0, 1, 7), LuckJars.BAD);
        Due.is("duel: most turns", x.duel(0, 1, Due.MOST), LuckJars.BAD);
        Due.is("duel: two alike", x.duel(1, 1, 0), LuckJars.BAD);
        Due.is("duel: -1", x.duel(-1, 1, 0), LuckJars.BAD);
        Due.is("duel: 2", x.duel(2, 1, 0), LuckJars.BAD);
        Due.is("duel: with -1", x.duel(0, -1, 0), LuckJars.BAD);
        Due.is("duel: with 2", x.duel(0, 2, 0), LuckJars.BAD);
        Due.is("duel: without houses", new LuckJars().duel(0, 1, 0), LuckJars.BAD);
    }
}
