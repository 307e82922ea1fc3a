/** The edges that "1 TEXTS, PLACES, KINDS" and promises 8 to 14 name: each method is for the sentence ahead of it. */
public final class EdgeTextsTest {
    private static final String NINES = "h9999";

    public static void main(String[] args) {
        numbersOfTexts();
        sizesOfTexts();
        textTooLong();
        textFewerThanNone();
        putCutToAByte();
        putBeyond();
        missingTexts();
        blanks();
        letters();
        figures();
        eighthHouse();
        endsTooEarly();
        fewHouses();
        placeAnew();
        placeWithAFault();
        houseAsked();
        brings();
        worthOfJars();
        comesOff();
        worthRefused();
        marks();
        marksRefused();
        Due.end("EdgeTextsTest");
    }

    // "TEXTS 0 .. 3"
    private static void numbersOfTexts() {
        LuckJars x = new LuckJars();
        for (int t = 0; t < 4; t++) {
            Due.is("text " + t, x.text(t, 1), 1);
            Due.is("put in " + t, x.put(t, 0, 40 + t), 1032);
        }
        for (int t = 0; t < 4; t++) {
            Due.is("each text has its own place " + t, x.put(t, 0, 1), 1040 + t);
        }
        Due.is("four texts", x.count(8), 4);
        for (int t : Edge.beyond(0, 3)) {
            Edge.refused("text " + t, Edge::busy, LuckJars.BAD, y -> y.text(t, 1));
            Edge.refused("put in " + t, Edge::busy, LuckJars.BAD, y -> y.put(t, 0, 1));
            Edge.refused("fault of " + t, Edge::busy, LuckJars.BAD, y -> y.fault(t));
            Edge.refused("place by " + t, Edge::busy, LuckJars.BAD, y -> y.place(t));
        }
    }

    // "rows of 0 to 60 bytes"; "A TEXT is there with n blanks: n." also where another one was
    private static void sizesOfTexts() {
        LuckJars x = new LuckJars();
        for (int n = 60; n >= 0; n--) {
            Due.is("text of " + n, x.text(3, n), n);
            if (n > 0) {
                Due.is("text of " + n + ": the first is blank", x.put(3, 0, 104), 1032);
            }
            if (n > 1) {
                Due.is("text of " + n + ": the last is blank", x.put(3, n - 1, 104), 1032);
            }
            Due.finds("text of " + n + ": behind it", x, x.put(3, n, 104), Due.BEYOND);
        }
        Due.is("text: longer again", x.text(3, 60), 60);
        for (int i = 0; i < 60; i++) {
            Due.is("text: longer again " + i, x.put(3, i, 0), 1032);
        }
        Due.is("text: anew is no second one", x.count(8), 1);
    }

    // "BAD: also n above 60"
    private static void textTooLong() {
        for (int n : new int[] {61, 62, 1000, Due.MOST}) {
            Edge.refused("text of " + n, Edge::busy, LuckJars.BAD, x -> x.text(0, n));
            Edge.refused("text of " + n + ", missing", Edge::busy, LuckJars.BAD, x -> x.text(1, n));
        }
    }

    // "SIZE: below 0." behind BAD
    private static void textFewerThanNone() {
        for (int n : new int[] {-1, -2, -61, Due.LEAST}) {
            Edge.found("text of " + n, Edge::busy, Due.SIZE, x -> x.text(0, n));
            Edge.found("text of " + n + ", missing", Edge::busy, Due.SIZE, x -> x.text(1, n));
            Edge.refused("text -1 of " + n, Edge::busy, LuckJars.BAD, x -> x.text(-1, n));
            Edge.refused("text 4 of " + n, Edge::busy, LuckJars.BAD, x -> x.text(4, n));
        }
    }

    // "Byte i of a TEXT is v, cut to a byte (-128 .. 127): what it was, and 1000 more."
    private static void putCutToAByte() {
        int[][] cut = {{0, 0}, {127, 127}, {128, -128}, {129, -127}, {255, -1}, {256, 0}, {383, 127}, {384, -128},
            {-1, -1}, {-128, -128}, {-129, 127}, {-256, 0}, {Due.MOST, -1}, {Due.LEAST, 0}, {Due.LEAST + 127, 127},
            {Due.LEAST + 128, -128}};
        LuckJars x = new LuckJars();
        x.text(0, 60);
        int was = 32;
        for (int[] one : cut) {
            Due.is("put " + one[0], x.put(0, 59, one[0]), 1000 + was);
            was = one[1];
        }
        Due.is("put: the last one", x.put(0, 59, 1), 1000 + was);
        Due.is("put: beside it", x.put(0, 58, 1), 1032);
    }

    // "BEYOND"
    private static void putBeyond() {
        for (int i : Edge.beyond(0, 2)) {
            Edge.found("put at " + i, Edge::busy, Due.BEYOND, x -> x.put(2, i, 104));
        }
        for (int i : new int[] {-1, 0, 1}) {
            Edge.found("put in an empty text at " + i, Edge::busy, Due.BEYOND, x -> x.put(3, i, 104));
        }
        LuckJars longest = new LuckJars();
        longest.text(0, 60);
        Due.finds("put at 60 of 60", longest, longest.put(0, 60, 1), Due.BEYOND);
    }

    // put: "BAD; NOTHING; BEYOND"; fault: "BAD; NOTHING"; place: "BAD; NOTHING"
    private static void missingTexts() {
        for (int i : new int[] {-1, 0, 60}) {
            Edge.found("put in a missing text at " + i, Edge::busy, Due.NOTHING, x -> x.put(1, i, 104));
        }
        Edge.found("fault of a missing text", Edge::busy, Due.NOTHING, x -> x.fault(1));
        Edge.found("place by a missing text", Edge::busy, Due.NOTHING, x -> x.place(1));
    }

    private static LuckJars written(String line) {
        LuckJars x = new LuckJars();
        Due.write(x, 0, line);
        return x;
    }

    private static void faultIs(String line, int want) {
        LuckJars x = written(line);
        Due.is("fault of '" + line + "'", x.fault(0), want);
        Due.is("place by '" + line + "'", x.place(0), LuckJars.STATE);
        Due.is("place by '" + line + "', houses", x.count(0), 0);
    }

    private static void isPlace(String line, int houses) {
        LuckJars x = written(line);
        Due.is("fault of '" + line + "'", x.fault(0), LuckJars.NONE);
        Due.is("place by '" + line + "'", x.place(0), houses);
        Due.is("place by '" + line + "', houses", x.count(0), houses);
    }

    // "blanks (32) ahead, between, behind as many as wanted, none within items"
    private static void blanks() {
        isPlace("h0000h0000", 2);
        isPlace(" h0000h0000", 2);
        isPlace("h0000 h0000", 2);
        isPlace("h0000h0000 ", 2);
        isPlace(" ".repeat(50) + "h0000h0000", 2);
        isPlace("h0000" + " ".repeat(50) + "h0000", 2);
        isPlace("h0000h0000" + " ".repeat(50), 2);
        isPlace("  h0000  w0000   g0000 k0000  o0000 c0000 h0000   ", 7);
        for (int within = 1; within < 5; within++) {
            faultIs("h0000".substring(0, within) + " " + "h0000".substring(within) + "h0000", within);
            faultIs("h0000" + "h0000".substring(0, within) + " " + "h0000".substring(within), 5 + within);
        }
        for (int sign : new int[] {0, 9, 10, 13, 31, 33, 160}) {
            faultIs("h0000" + (char) sign + "h0000", 5);
            faultIs((char) sign + "h0000h0000", 0);
            faultIs("h0000h0000" + (char) sign, 10);
        }
    }

    // "each a letter": of the six; "(a letter ... that is none such ...: its place ...)"
    private static void letters() {
        for (int sign = 0; sign < 256; sign++) {
            String line = "h0000 " + (char) sign + "0000";
            int kind = "hwgkoc".indexOf(sign);
            if (kind >= 0) {
                isPlace(line, 2);
                LuckJars x = written(line);
                x.place(0);
                Due.tells("kind of " + (char) sign, x, x.house(1, 0), kind);
            } else {
                faultIs(line, sign == ' ' ? 7 : 6);
            }
        }
    }

    // "how much LUCK it FINDS (0 .. 9), how HARD its WORK is (0 .. 9; one figure each), what is in its JAR (two
    // figures 00 .. 99)"; "(... a figure that is none such ...: its place ...)"
    private static void figures() {
        String line = NINES + "h0000";
        isPlace(line, 2);
        LuckJars x = Due.placed(line);
        int[] most = {0, 9, 9, 99};
        for (int what = 0; what < 4; what++) {
            Due.tells("figures: the most " + what, x, x.house(0, what), most[what]);
            Due.tells("figures: the least " + what, x, x.house(1, what), 0);
        }
        LuckJars y = Due.placed("h0110 h1001");
        Due.tells("figures: the jar's first", y, y.house(0, 3), 10);
        Due.tells("figures: the jar's second", y, y.house(1, 3), 1);
        for (int sign = 0; sign < 256; sign++) {
            boolean figure = sign >= '0' && sign <= '9';
            for (int i = 6; i < 10; i++) {
                String other = line.substring(0, i) + (char) sign + line.substring(i + 1);
                if (figure) {
                    isPlace(other, 2);
                } else {
                    faultIs(other, i);
                }
            }
        }
        faultIs("h000h0000", 4);
        faultIs("h00000h0000", 5);
    }

    // "HOUSES (2 to 7 ...)"; "an eighth HOUSE: its place"
    private static void eighthHouse() {
        isPlace(NINES.repeat(2), 2);
        isPlace(NINES.repeat(7), 7);
        isPlace(NINES.repeat(7) + " ".repeat(25), 7);
        faultIs(NINES.repeat(8), 35);
        faultIs(NINES.repeat(12), 35);
        faultIs(NINES.repeat(7) + "  c0000", 37);
        faultIs(NINES.repeat(7) + " ".repeat(24) + "h", 59);
        faultIs(NINES.repeat(7) + "x", 35);
        faultIs(NINES.repeat(7) + "0", 35);
        LuckJars x = Due.placed("h0001 w0002 g0003 k0004 o0005 c0006 h0007");
        Edge.jars("seven, as they come", x, 1, 2, 3, 4, 5, 6, 7);
    }

    // "the TEXT's size, if its end comes too early"
    private static void endsTooEarly() {
        for (int size = 6; size < 10; size++) {
            faultIs("h0000h0000".substring(0, size), size);
            faultIs("h0000h0000h0000".substring(0, 5 + size), 5 + size);
        }
        for (int size = 1; size < 5; size++) {
            faultIs(NINES.substring(0, size), size);
            faultIs(NINES.repeat(6) + NINES.substring(0, size), 30 + size);
        }
        faultIs(" ".repeat(51) + "h0000h000", 60);
        faultIs(" ".repeat(54) + "h0000h", 60);
    }

    // "or there are less than 2 HOUSES, or blanks alone"
    private static void fewHouses() {
        faultIs("", 0);
        for (int blanks : new int[] {1, 2, 59, 60}) {
            faultIs(" ".repeat(blanks), blanks);
        }
        faultIs(NINES, 5);
        faultIs(" " + NINES, 6);
        faultIs(NINES + " ", 6);
        faultIs(NINES + " ".repeat(55), 60);
        faultIs(" ".repeat(55) + NINES, 60);
    }

    // "A PLACE by a TEXT (anew: as told at first, no DEEDS; kept PLACES go)"
    private static void placeAnew() {
        LuckJars x = Edge.busy();
        Due.is("place: anew by the same text", x.place(0), 7);
        Due.is("place: anew, day", x.count(1), 0);
        Due.is("place: anew, deeds", x.count(2), 0);
        Due.is("place: anew, quay", x.count(3), 0);
        Due.is("place: anew, kept", x.count(9), 0);
        Due.is("place: anew, rows stay", x.count(7), 3);
        Due.is("place: anew, texts stay", x.count(8), 3);
        Due.is("place: anew, asked stays", x.asked(), 23);
        Edge.jars("place: anew", x, 5, 11, 18, 15, 22, 9, 0);
        Due.is("place: anew, no deed to undo", x.undo(1), LuckJars.BAD);
        for (int k = 0; k < 3; k++) {
            Due.finds("place: anew, kept " + k, x, x.on(k), Due.NOTHING);
        }
        LuckJars y = Edge.full();
        for (int k = 0; k < 3; k++) {
            y.keep(k);
        }
        Due.write(y, 1, "c0103 h0000");
        Due.is("place: of fewer houses, behind forty deeds", y.place(1), 2);
        for (int k = 0; k < 3; k++) {
            Due.finds("place: of fewer houses, kept " + k, y, y.on(k), Due.NOTHING);
        }
        Edge.jars("place: of fewer houses", y, 3, 0);
        Edge.refused("place: of fewer houses, the third", () -> Due.placed("c0103 h0000"), LuckJars.BAD,
            z -> z.house(2, 0));
        Due.is("place: of fewer houses, all jars", y.count(4), 3);
        Due.is("place: of fewer houses, a day", y.day(), 1);
    }

    // "STATE: a FAULT. (STATE behind NOTHING.)"
    private static void placeWithAFault() {
        Edge.refused("place: blanks alone", Edge::busy, LuckJars.STATE, x -> x.place(2));
        Edge.refused("place: an empty text", Edge::busy, LuckJars.STATE, x -> x.place(3));
        Edge.found("place: missing", Edge::busy, Due.NOTHING, x -> x.place(1));
    }

    // "Of a HOUSE: 0 the KIND, ... 6 whether its WORK comes OFF ... BAD."
    private static void houseAsked() {
        for (int what : Edge.beyond(0, 6)) {
            Edge.refused("house: what " + what, Edge::busy, LuckJars.BAD, x -> x.house(0, what));
        }
        for (int i : Edge.beyond(0, 6)) {
            for (int what = 0; what < 7; what++) {
                int asked = what;
                Edge.refused("house " + i + ", " + what, Edge::busy, LuckJars.BAD, x -> x.house(i, asked));
            }
        }
        Edge.refused("house: the third of two", () -> Due.placed("h0000 h0000"), LuckJars.BAD, x -> x.house(2, 0));
        LuckJars x = Edge.busy();
        Due.tells("house: the first kind of the first one", x, x.house(0, 0), 0);
        Due.tells("house: the last of the last one", x, x.house(6, 6), 0);
    }

    private static void bringsBy(char letter, int jar, int day, int want) {
        LuckJars x = Due.placed("h0000 " + letter + "00" + jar / 10 + jar % 10);
        for (int d = 0; d < day; d++) {
            x.day();
        }
        Due.tells(letter + " brings of " + jar + " on day " + day, x, x.house(1, 4), want);
    }

    // "A HOUSE BRINGS all that is in its JAR on a SPRING; a WIDOW half (cut) of that; a GAMBLER as a HOUSE; a GREEDY
    // one all but 7 (0 at least); an OLD one nothing; a CAT as a GAMBLER, but nothing on DAYS of an odd number."
    private static void brings() {
        for (int jar : new int[] {0, 1, 2, 6, 7, 8, 98, 99}) {
            for (int day = 0; day < 4; day++) {
                bringsBy('h', jar, day, jar);
                bringsBy('g', jar, day, jar);
                bringsBy('o', jar, day, 0);
                bringsBy('c', jar, day, day == 1 || day == 3 ? 0 : jar);
            }
        }
        int[][] half = {{0, 0}, {1, 0}, {2, 1}, {3, 1}, {98, 49}, {99, 49}};
        for (int[] one : half) {
            bringsBy('w', one[0], 0, one[1]);
            bringsBy('w', one[0], 1, one[1]);
        }
        int[][] allButSeven = {{0, 0}, {6, 0}, {7, 0}, {8, 1}, {20, 13}, {21, 14}, {99, 92}};
        for (int[] one : allButSeven) {
            bringsBy('k', one[0], 0, one[1]);
            bringsBy('k', one[0], 1, one[1]);
        }
    }

    // "What its JAR is WORTH to its WORK: ..."; "What a JAR of v (0 .. 99) would be WORTH to a HOUSE."
    private static void worthOfJars() {
        int[][] all = {{0, 0, 3, 0, 0, 6, 0}, {1, 1, 4, 2, 1, 8, 0}, {2, 2, 5, 4, 2, 10, 0}, {3, 3, 6, 6, 3, 12, 1},
            {19, 19, 22, 38, 19, 44, 33}, {20, 20, 23, 40, 20, 46, 35}, {21, 21, 24, 42, 0, 48, 37},
            {22, 22, 25, 44, 0, 50, 39}, {98, 98, 101, 196, 0, 202, 191}, {99, 99, 102, 198, 0, 204, 193}};
        for (int[] one : all) {
            LuckJars x = Due.placed("h0000w0000g0000k0000o0000c0000");
            String figures = "00" + one[0] / 10 + one[0] % 10;
            LuckJars y = Due.placed("h" + figures + "w" + figures + "g" + figures + "k" + figures + "o" + figures
                + "c" + figures);
            for (int kind = 0; kind < 6; kind++) {
                Due.is("worth of " + one[0] + " to " + kind, x.worth(kind, one[0]), one[1 + kind]);
                Due.tells("worth of the jar of " + one[0] + " to " + kind, y, y.house(kind, 5), one[1 + kind]);
            }
        }
    }

    private static void offBy(String house, int want) {
        LuckJars x = Due.placed("h0900 " + house);
        Due.tells("off: " + house, x, x.house(1, 6), want);
        Due.both("off: works of " + house, x, x.works(), 2 * want, want);
    }

    // "A WORK comes OFF, if its HOUSE's JAR is WORTH 5 for each of HARD, or more."
    private static void comesOff() {
        String[] just = {"h0000", "h0105", "h0945", "w0102", "w0942", "g0205", "g0923", "k0105", "k0420", "k0000",
            "k0099", "o0100", "o0202", "o0920", "c0000", "c0105", "c0208", "c0925"};
        for (String house : just) {
            offBy(house, 1);
        }
        String[] not = {"h0104", "h0944", "w0101", "w0941", "g0102", "g0922", "k0104", "k0419", "k0421", "k0520",
            "k0121", "k0999", "o0201", "o0919", "c0104", "c0207", "c0924"};
        for (String house : not) {
            offBy(house, 0);
        }
    }

    // worth: "BAD." To a HOUSE itself a jar of -1 would be worth -1, which is BAD anyway: the other KINDS tell.
    private static void worthRefused() {
        for (int v : Edge.beyond(0, 99)) {
            for (int k = 0; k < 7; k++) {
                int i = k;
                Edge.refused("worth of " + v + " to " + i, Edge::busy, LuckJars.BAD, x -> x.worth(i, v));
            }
        }
        for (int i : Edge.beyond(0, 6)) {
            Edge.refused("worth to " + i, Edge::busy, LuckJars.BAD, x -> x.worth(i, 5));
        }
        Edge.refused("worth without houses", LuckJars::new, LuckJars.BAD, x -> x.worth(0, 0));
    }

    private static void markIs(String house, int kind, int want) {
        LuckJars x = Due.placed("h0000 " + house);
        Due.is("mark of " + house + " as " + kind, x.mark(1, kind), want);
        x.day();
        Due.is("mark of " + house + " as " + kind + ", a day later", x.mark(1, kind), want);
    }

    // "a WIDOW (OLD one, too) how much more its JAR is WORTH than a HOUSE's alike, a GAMBLER (CAT, too) likewise, and
    // 100 (below 100, if less), a GREEDY one how much less it BRINGS than a HOUSE alike, an OLD one how much more its
    // JAR is WORTH than a WIDOW's alike, a CAT how much less than a GAMBLER's alike."
    private static void marks() {
        markIs("w0000", 1, 3);
        markIs("w0099", 1, 3);
        markIs("o0000", 1, 6);
        markIs("o0099", 1, 105);
        markIs("g0000", 2, 100);
        markIs("g0099", 2, 199);
        int[] cats = {100, 99, 98, 98, 99, 100, 101};
        int[] lessThanGamblers = {0, 2, 4, 5, 5, 5, 5};
        for (int jar = 0; jar < 7; jar++) {
            markIs("c000" + jar, 2, cats[jar]);
            markIs("c000" + jar, 5, lessThanGamblers[jar]);
        }
        markIs("c0099", 2, 194);
        markIs("c0099", 5, 5);
        int[] keptBack = {0, 1, 2, 3, 4, 5, 6, 7, 7, 7};
        for (int jar = 0; jar < 10; jar++) {
            markIs("k000" + jar, 3, keptBack[jar]);
        }
        markIs("k0021", 3, 7);
        markIs("k0099", 3, 7);
        markIs("o0000", 4, 3);
        markIs("o0099", 4, 102);
        LuckJars x = Due.placed("c1000 h0000");
        x.day();
        x.day();
        Due.is("mark: as the jar is now", x.mark(0, 2), 98);
    }

    // "BAD: also KIND 0; UNLIKE." "3 UNLIKE (one of another KIND ...)"; "4 OLD (o, 111; a WIDOW), 5 CAT (c, 99; a
    // GAMBLER)": and no WIDOW is OLD, no GAMBLER a CAT
    private static void marksRefused() {
        for (int kind : Edge.beyond(1, 5)) {
            for (int k = 0; k < 7; k++) {
                int i = k;
                Edge.refused("mark " + i + " as " + kind, Edge::busy, LuckJars.BAD, x -> x.mark(i, kind));
            }
        }
        for (int i : Edge.beyond(0, 6)) {
            Edge.refused("mark of " + i, Edge::busy, LuckJars.BAD, x -> x.mark(i, 1));
        }
        boolean[][] is = {{}, {false, true}, {false, false, true}, {false, false, false, true},
            {false, true, false, false, true}, {false, false, true, false, false, true}, {}};
        for (int k = 0; k < 7; k++) {
            int i = k;
            for (int kind = 1; kind < 6; kind++) {
                int as = kind;
                if (kind >= is[i].length || !is[i][kind]) {
                    Edge.found("mark " + i + " unlike " + kind, Edge::busy, Due.UNLIKE, x -> x.mark(i, as));
                } else {
                    Due.is("mark " + i + " alike " + kind, Edge.busy().mark(i, kind) >= 0 ? 1 : 0, 1);
                }
            }
        }
    }
}
