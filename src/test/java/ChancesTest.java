/** Promises 35 to 37: odds, mid, lots. */
public final class ChancesTest {
    public static void main(String[] args) {
        odds();
        oddsRefused();
        mid();
        lots();
        lotsByTheHouse();
        lotsRefused();
        Due.end("ChancesTest");
    }

    private static void odds() {
        LuckJars x = Due.placed("h5100 h5100 h0100 h0005");
        Due.chance("odds: of none", x, x.odds(0, 5), 1, 1);
        Due.chance("odds: one anyway", x, x.odds(1, 5), 1, 1);
        Due.chance("odds: one of two", x, x.odds(2, 3), 15, 16);
        Due.chance("odds: both", x, x.odds(3, 3), 9, 16);
        Due.chance("odds: too many", x, x.odds(4, 3), 0, 1);
        Due.chance("odds: 7", x, x.odds(7, 0), 0, 1);
        Due.chance("odds: all find", x, x.odds(3, 0), 1, 1);
        Due.chance("odds: none finds", x, x.odds(2, 12), 0, 1);
        Due.chance("odds: an eleventh", x, x.odds(3, 11), 1, 144);
        LuckJars y = Due.placed("h5100h5100h5100h5100h5100h5100h5100");
        Due.chance("odds: seven", y, y.odds(7, 11), 1, 35831808);
        Due.chance("odds: one of seven", y, y.odds(1, 1), 35831807, 35831808);
        LuckJars z = Due.placed("k1420 h5100");
        Due.chance("odds: greedy, turns", z, z.odds(1, 4), 7, 9);
        Due.is("odds: aside", z.count(1), 0);
        LuckJars slow = Due.placed("h3100 h3100");
        Due.chance("odds: not in one day", slow, slow.odds(1, 6), 0, 1);
        Due.chance("mid: not in one day", slow, slow.mid(6), 0, 1);
    }

    private static void oddsRefused() {
        LuckJars x = Due.placed("h5100 h5100");
        Due.chance("odds", x, x.odds(1, 6), 3, 4);
        Due.is("odds: -1", x.odds(-1, 0), LuckJars.BAD);
        Due.is("odds: 8", x.odds(8, 0), LuckJars.BAD);
        Due.is("odds: p -1", x.odds(0, -1), LuckJars.BAD);
        Due.is("odds: p 13", x.odds(0, 13), LuckJars.BAD);
        Due.is("odds: upper stays", x.upper(), 3);
        Due.is("odds: lower stays", x.lower(), 4);
        LuckJars none = new LuckJars();
        Due.is("odds: without houses", none.odds(0, 0), LuckJars.STATE);
        Due.is("odds: without houses, bad", none.odds(8, 0), LuckJars.BAD);
        Due.is("mid: without houses", none.mid(0), LuckJars.STATE);
        Due.is("mid: without houses, bad", none.mid(13), LuckJars.BAD);
    }

    private static void mid() {
        LuckJars x = Due.placed("h5100 h5100 h0100 h0005 k1420");
        Due.chance("mid", x, x.mid(3), 11, 4);
        Due.chance("mid: all find", x, x.mid(0), 3, 1);
        Due.chance("mid: none finds", x, x.mid(12), 2, 1);
        LuckJars y = Due.placed("h0100 h0100");
        Due.chance("mid: none", y, y.mid(5), 0, 1);
        Due.is("mid: -1", y.mid(-1), LuckJars.BAD);
        Due.is("mid: 13", y.mid(13), LuckJars.BAD);
        Due.is("mid: upper stays", y.upper(), 0);
        Due.is("mid: lower stays", y.lower(), 1);
    }

    // 48271 modulo 8 is 7, 2 times that 6, 4 times 4, 8 times 0; 3 times that is 5, 6 times 2, 7 times 1.
    private static void lots() {
        LuckJars x = Due.placed("h1010 h1020 h0030");
        Due.is("lots: a day", x.lots(1, 1), 0);
        Due.is("lots: a day", x.count(1), 1);
        Due.is("lots: a deed", x.count(2), 1);
        Due.is("lots: a spring", x.lots(1, 8), 2);
        Due.tells("lots: a spring", x, x.house(0, 3), 20);
        Due.is("lots: no day", x.count(1), 1);
        Due.is("lots: leaves", x.lots(1, 7), 11);
        Due.tells("lots: who left", x, x.house(7 * 48271 / 8 % 3, 3), 11);
        Due.is("lots: takes", x.lots(1, 6), 2);
        Due.tells("lots: who took", x, x.house(6 * 48271 / 8 % 3, 3), 29);
        Due.is("lots: takes less", x.lots(1, 6), 0);
        Due.tells("lots: who took less", x, x.house(6 * 48271 / 8 % 3, 3), 31);
        Due.is("lots: takes none", x.lots(1, 6), 0);
        Due.is("lots: a deed anyhow", x.count(2), 6);
        Due.is("lots: undo", x.undo(4), 2);
        Due.is("lots: undone", x.count(3), 2);
        for (int seed = 2; seed <= 5; seed++) {
            Due.is("lots: a day by " + seed, x.lots(1, seed), 2);
            Due.is("lots: a day by " + seed, x.count(1), seed);
        }
        x.spring();
        int quay = x.count(3);
        x.undo(x.count(2) - 1);
        Due.is("lots: a spring by the last seed", x.lots(1, 2147483646), quay);
    }

    private static void lotsByTheHouse() {
        LuckJars x = Due.placed("h0004 h0098 h0003");
        x.leave(1, 98);
        Due.is("lots: leaves less", x.lots(1, 7), 98 + leftBy(x, 7));
        LuckJars y = Due.placed("h0095 h0095 h0095");
        y.leave(0, 50);
        y.leave(1, 1);
        y.take(0, 46);
        int taker = 6 * 48271 / 8 % 3;
        int room = 99 - new int[] {91, 94, 95}[taker];
        Due.is("lots: takes up to 99", y.lots(1, 6), 5 - Math.min(5, room));
        LuckJars z = Due.placed("h1010 h1020 h0030");
        LuckJars byHand = Due.placed("h1010 h1020 h0030");
        long lot = 4711;
        for (int k = 0; k < 20; k++) {
            lot = lot * 48271 % 2147483647;
            byHand(byHand, (int) lot);
        }
        Due.is("lots: twenty", z.lots(20, 4711), byHand.count(3));
        Due.is("lots: twenty deeds", z.count(2), 20);
        for (int what = 3; what <= 6; what++) {
            Due.is("lots: twenty, count " + what, z.count(what), byHand.count(what));
        }
        Due.is("lots: twenty, day", z.count(1), byHand.count(1));
        for (int i = 0; i < 3; i++) {
            z.house(i, 3);
            int jar = z.asked();
            Due.tells("lots: twenty, jar " + i, byHand, byHand.house(i, 3), jar);
        }
    }

    private static int leftBy(LuckJars x, int seed) {
        return new int[] {4, 0, 3}[seed * 48271 / 8 % 3];
    }

    private static void byHand(LuckJars x, int lot) {
        int i = lot / 8 % 3;
        x.house(i, 3);
        int jar = x.asked();
        if (lot % 8 == 0) {
            x.spring();
        } else if (lot % 8 == 1) {
            x.leave(i, Math.min(9, jar));
        } else if (lot % 8 == 2) {
            x.take(i, Math.min(Math.min(9, x.count(3)), 99 - jar));
        } else {
            x.day();
        }
    }

    private static void lotsRefused() {
        LuckJars x = Due.placed("h1010 h1020");
        Due.is("lots: 0", x.lots(0, 1), LuckJars.BAD);
        Due.is("lots: -1", x.lots(-1, 1), LuckJars.BAD);
        Due.is("lots: 21", x.lots(21, 1), LuckJars.BAD);
        Due.is("lots: seed 0", x.lots(1, 0), LuckJars.BAD);
        Due.is("lots: seed -1", x.lots(1, -1), LuckJars.BAD);
        Due.is("lots: seed most", x.lots(1, Due.MOST), LuckJars.BAD);
        x.day();
        x.lots(20, 5);
        Due.is("lots: full", x.lots(20, 5), LuckJars.FULL);
        Due.is("lots: full, nothing done", x.count(2), 21);
        Due.is("lots: bad ahead of full", x.lots(20, 0), LuckJars.BAD);
        x.lots(19, 5);
        Due.is("lots: up to 40", x.count(2), 40);
        Due.is("lots: full with one", x.lots(1, 5), LuckJars.FULL);
        LuckJars none = new LuckJars();
        Due.is("lots: without houses", none.lots(1, 1), LuckJars.STATE);
        Due.is("lots: without houses, bad", none.lots(1, 0), LuckJars.BAD);
    }
}
