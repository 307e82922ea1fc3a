/** Promises 8 to 14: text, put, fault, place, house, mark, worth. */
public final class TextsTest {
    private static final String ALL_KINDS = "h3405 w2311 g1618 k4215 o1922 c2309 h0100";

    public static void main(String[] args) {
        text();
        put();
        faults();
        faultRefused();
        place();
        placeAnew();
        placeRefused();
        house();
        houseRefused();
        mark();
        worth();
        Due.end("TextsTest");
    }

    private static void text() {
        LuckJars x = new LuckJars();
        for (int t = 0; t < 4; t++) {
            Due.is("text " + t, x.text(t, 60), 60);
            Due.is("text: first blank", x.put(t, 0, 1), 1032);
            Due.is("text: last blank", x.put(t, 59, 1), 1032);
        }
        Due.is("text: anew", x.text(1, 1), 1);
        Due.is("text: blank anew", x.put(1, 0, 2), 1032);
        Due.finds("text: shorter", x, x.put(1, 1, 2), Due.BEYOND);
        Due.is("text: long", x.text(0, 61), LuckJars.BAD);
        Due.is("text: -1", x.text(-1, 1), LuckJars.BAD);
        Due.is("text: 4", x.text(4, 1), LuckJars.BAD);
        Due.is("text: 4, size", x.text(4, -1), LuckJars.BAD);
        Due.finds("text: size", x, x.text(0, -1), Due.SIZE);
        Due.is("text: stays", x.put(0, 59, 1), 1001);
        Due.is("text: empty", x.text(0, 0), 0);
    }

    private static void put() {
        LuckJars x = new LuckJars();
        x.text(3, 2);
        Due.is("put", x.put(3, 1, 127), 1032);
        Due.is("put: was 127", x.put(3, 1, 128), 1127);
        Due.is("put: was cut to -128", x.put(3, 1, 255), 872);
        Due.is("put: was cut to -1", x.put(3, 1, 256), 999);
        Due.is("put: was cut to 0", x.put(3, 1, Due.MOST), 1000);
        Due.is("put: most was cut", x.put(3, 1, 360), 999);
        Due.is("put: was cut to h", x.put(3, 1, 1), 1104);
        Due.is("put: other place", x.put(3, 0, 1), 1032);
        Due.is("put: -1", x.put(-1, 0, 1), LuckJars.BAD);
        Due.is("put: 4", x.put(4, 0, 1), LuckJars.BAD);
        Due.finds("put: missing", x, x.put(2, -1, 1), Due.NOTHING);
        Due.finds("put: below", x, x.put(3, -1, 1), Due.BEYOND);
        Due.finds("put: above", x, x.put(3, 2, 1), Due.BEYOND);
    }

    private static void faultIs(String line, int want) {
        LuckJars x = new LuckJars();
        Due.write(x, 1, line);
        Due.is("fault of '" + line + "'", x.fault(1), want);
    }

    private static void faults() {
        faultIs("h9901h9901", LuckJars.NONE);
        faultIs("   h9901  w0000   ", LuckJars.NONE);
        faultIs(ALL_KINDS, LuckJars.NONE);
        faultIs("h9901h9901h9901h9901h9901h9901h9901", LuckJars.NONE);
        faultIs("", 0);
        faultIs("   ", 3);
        faultIs("h9901", 5);
        faultIs(" h9901  ", 8);
        faultIs("h9901h990", 9);
        faultIs("h9901h99", 8);
        faultIs("h9901h", 6);
        faultIs("H9901h9901", 0);
        faultIs("x", 0);
        faultIs("99901h9901", 0);
        faultIs("h9901 b9901", 6);
        faultIs("h9901 9", 6);
        faultIs("h 9901h9901", 1);
        faultIs("h9 901h9901", 2);
        faultIs("h99 01h9901", 3);
        faultIs("h990 1h9901", 4);
        faultIs("h/901h9901", 1);
        faultIs("h9:01h9901", 2);
        faultIs("h99x1h9901", 3);
        faultIs("h9901h990o", 9);
        faultIs("h9901h9901h9901h9901h9901h9901h9901h9901", 35);
        faultIs("h9901h9901h9901h9901h9901h9901h9901 x", 36);
        faultIs("h9901h9901h9901h9901h9901h9901h9901 1", 36);
        faultIs("h9901h9901\t", 10);
        faultIs("h9901h9901" + (char) 232, 10);
        String blanks = " ".repeat(50);
        faultIs(blanks + "h9901h9901", LuckJars.NONE);
        faultIs(blanks + "  h9901h99", 60);
        faultIs(blanks + "     h9901", 60);
        faultIs(blanks + "h9901h990x", 59);
        faultIs(blanks + "          ", 60);
        faultIs("h9901h9901" + blanks, LuckJars.NONE);
    }

    private static void faultRefused() {
        LuckJars x = new LuckJars();
        Due.is("fault: -1", x.fault(-1), LuckJars.BAD);
        Due.is("fault: 4", x.fault(4), LuckJars.BAD);
        Due.finds("fault: missing", x, x.fault(3), Due.NOTHING);
    }

    private static void place() {
        LuckJars x = new LuckJars();
        Due.write(x, 2, "  k4215h3405 ");
        Due.is("place", x.place(2), 2);
        Due.is("place: houses", x.count(0), 2);
        Due.tells("place: kind", x, x.house(0, 0), 3);
        Due.tells("place: finds", x, x.house(0, 1), 4);
        Due.tells("place: hard", x, x.house(0, 2), 2);
        Due.tells("place: jar", x, x.house(0, 3), 15);
        Due.tells("place: second kind", x, x.house(1, 0), 0);
        Due.tells("place: second jar", x, x.house(1, 3), 5);
        Due.write(x, 1, " ".repeat(50) + "w9876o5432");
        Due.is("place: sixty signs", x.place(1), 2);
        Due.tells("place: sixty signs, jar", x, x.house(1, 3), 32);
        Due.write(x, 0, "h0099" + "w0098" + "g0097" + "k0096" + "o0095" + "c0094" + "h0093");
        Due.is("place: seven", x.place(0), 7);
        for (int i = 0; i < 7; i++) {
            Due.tells("place: seven, kind " + i, x, x.house(i, 0), i % 6);
            Due.tells("place: seven, jar " + i, x, x.house(i, 3), 99 - i);
        }
    }

    private static void placeAnew() {
        LuckJars x = Due.placed("h3405 w2311 g1618");
        x.day();
        x.leave(2, 4);
        x.keep(0);
        x.keep(2);
        Due.write(x, 1, "c1202o3304");
        Due.is("place anew", x.place(1), 2);
        Due.is("place anew: day", x.count(1), 0);
        Due.is("place anew: deeds", x.count(2), 0);
        Due.is("place anew: quay", x.count(3), 0);
        Due.is("place anew: jars", x.count(4), 6);
        Due.is("place anew: kept", x.count(9), 0);
        Due.finds("place anew: on", x, x.on(0), Due.NOTHING);
        Due.is("place anew: undo", x.undo(1), LuckJars.BAD);
    }

    private static void placeRefused() {
        LuckJars x = Due.placed("h3405 w2311");
        x.day();
        x.keep(1);
        Due.write(x, 1, "h3405");
        Due.is("place: fault", x.place(1), LuckJars.STATE);
        Due.is("place: -1", x.place(-1), LuckJars.BAD);
        Due.is("place: 4", x.place(4), LuckJars.BAD);
        Due.finds("place: missing", x, x.place(2), Due.NOTHING);
        Due.is("place: stays", x.count(0), 2);
        Due.is("place: deeds stay", x.count(2), 1);
        Due.is("place: kept stays", x.count(9), 1);
    }

    private static void houseIs(LuckJars x, int i, int... want) {
        for (int what = 0; what < 7; what++) {
            Due.tells("house " + i + ", " + what, x, x.house(i, what), want[what]);
        }
    }

    private static void house() {
        LuckJars x = Due.placed(ALL_KINDS);
        houseIs(x, 0, 0, 3, 4, 5, 5, 5, 0);
        houseIs(x, 1, 1, 2, 3, 11, 5, 14, 0);
        houseIs(x, 2, 2, 1, 6, 18, 18, 36, 1);
        houseIs(x, 3, 3, 4, 2, 15, 8, 15, 1);
        houseIs(x, 4, 4, 1, 9, 22, 0, 50, 1);
        houseIs(x, 5, 5, 2, 3, 9, 9, 13, 0);
        houseIs(x, 6, 0, 0, 1, 0, 0, 0, 0);
        x.day();
        houseIs(x, 4, 4, 1, 9, 23, 0, 52, 1);
        houseIs(x, 5, 5, 2, 3, 11, 0, 17, 1);
        LuckJars y = Due.placed("k0420 k0521 k0007 k0008 h0420 h0419 c0002");
        houseIs(y, 0, 3, 0, 4, 20, 13, 20, 1);
        houseIs(y, 1, 3, 0, 5, 21, 14, 0, 0);
        houseIs(y, 2, 3, 0, 0, 7, 0, 7, 1);
        houseIs(y, 3, 3, 0, 0, 8, 1, 8, 1);
        houseIs(y, 4, 0, 0, 4, 20, 20, 20, 1);
        houseIs(y, 5, 0, 0, 4, 19, 19, 19, 0);
        houseIs(y, 6, 5, 0, 0, 2, 2, 0, 1);
    }

    private static void houseRefused() {
        LuckJars x = Due.placed("h3405 w2311");
        x.house(0, 3);
        Due.is("house: -1", x.house(-1, 0), LuckJars.BAD);
        Due.is("house: 2", x.house(2, 0), LuckJars.BAD);
        Due.is("house: what -1", x.house(0, -1), LuckJars.BAD);
        Due.is("house: what 7", x.house(0, 7), LuckJars.BAD);
        Due.is("house: what 8", x.house(0, 8), LuckJars.BAD);
        Due.is("house: least what", x.house(0, Due.LEAST), LuckJars.BAD);
        Due.is("house: most what", x.house(0, Due.MOST), LuckJars.BAD);
        Due.is("house: asked stays", x.asked(), 5);
        Due.is("house: none", new LuckJars().house(0, 0), LuckJars.BAD);
    }

    private static void mark() {
        LuckJars x = Due.placed(ALL_KINDS);
        Due.is("mark: widow", x.mark(1, 1), 3);
        Due.is("mark: old widow", x.mark(4, 1), 28);
        Due.is("mark: gambler", x.mark(2, 2), 118);
        Due.is("mark: cat that gambles", x.mark(5, 2), 104);
        Due.is("mark: greedy", x.mark(3, 3), 7);
        Due.is("mark: old", x.mark(4, 4), 25);
        Due.is("mark: cat", x.mark(5, 5), 5);
        int[] ownKinds = {0, 1, 2, 3, 4, 5, 0};
        for (int i = 0; i < 7; i++) {
            for (int kind = 1; kind < 6; kind++) {
                boolean fits = ownKinds[i] == kind || i == 4 && kind == 1 || i == 5 && kind == 2;
                if (!fits) {
                    Due.finds("mark " + i + " unlike " + kind, x, x.mark(i, kind), Due.UNLIKE);
                }
            }
        }
        Due.is("mark: kind 0", x.mark(0, 0), LuckJars.BAD);
        Due.is("mark: kind 6", x.mark(0, 6), LuckJars.BAD);
        Due.is("mark: kind 7", x.mark(0, 7), LuckJars.BAD);
        Due.is("mark: kind -1", x.mark(0, -1), LuckJars.BAD);
        Due.is("mark: -1", x.mark(-1, 1), LuckJars.BAD);
        Due.is("mark: 7", x.mark(7, 1), LuckJars.BAD);
        LuckJars y = Due.placed("c0002 k0004 k0050 c0000 c0003");
        Due.is("mark: cat below 100", y.mark(0, 2), 98);
        Due.is("mark: cat of 2", y.mark(0, 5), 4);
        Due.is("mark: greedy of 4", y.mark(1, 3), 4);
        Due.is("mark: greedy of 50", y.mark(2, 3), 7);
        Due.is("mark: cat of none", y.mark(3, 5), 0);
        Due.is("mark: cat of 3 gambles", y.mark(4, 2), 98);
        y.day();
        Due.is("mark: cat on an odd day", y.mark(4, 5), 5);
    }

    private static void worth() {
        LuckJars x = Due.placed(ALL_KINDS);
        int[] none = {0, 3, 0, 0, 6, 0};
        int[] some = {20, 23, 40, 20, 46, 35};
        int[] more = {21, 24, 42, 0, 48, 37};
        int[] most = {99, 102, 198, 0, 204, 193};
        for (int i = 0; i < 6; i++) {
            Due.is("worth of none " + i, x.worth(i, 0), none[i]);
            Due.is("worth of 20 " + i, x.worth(i, 20), some[i]);
            Due.is("worth of 21 " + i, x.worth(i, 21), more[i]);
            Due.is("worth of 99 " + i, x.worth(i, 99), most[i]);
        }
        Due.is("worth: cat of 2", x.worth(5, 2), 0);
        Due.is("worth: cat of 3", x.worth(5, 3), 1);
        Due.is("worth: -1", x.worth(-1, 5), LuckJars.BAD);
        Due.is("worth: 7", x.worth(7, 5), LuckJars.BAD);
        Due.is("worth of -1", x.worth(0, -1), LuckJars.BAD);
        Due.is("worth of 100", x.worth(0, 100), LuckJars.BAD);
    }
}
