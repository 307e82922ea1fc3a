/** The edges that "1 ROWS" and promises 1 to 7 name: each method is for the sentence that stands ahead of it. */
public final class EdgeRowsTest {
    public static void main(String[] args) {
        nothingAtFirst();
        numbersOfRows();
        sizesOfRows();
        allNoughts();
        tooLong();
        fewerThanNone();
        layAndAt();
        placesBeyond();
        missingRows();
        torn();
        copiesAsIfTakenAhead();
        copiesNone();
        copyBeyond();
        copyOrder();
        meanCut();
        meanOfGreatSums();
        meanOfNone();
        Due.end("EdgeRowsTest");
    }

    // "No ROWS, TEXTS, HOUSES." "... or missing (at first)." "A PLACE (without HOUSES at first)"
    private static void nothingAtFirst() {
        LuckJars x = new LuckJars();
        for (int what : new int[] {0, 1, 2, 3, 7, 8, 9}) {
            Due.is("new: count " + what, x.count(what), 0);
        }
        for (int k = 0; k < 6; k++) {
            int r = k;
            Edge.found("new: at of row " + r, LuckJars::new, Due.NOTHING, y -> y.at(r, 0));
        }
        for (int k = 0; k < 4; k++) {
            int t = k;
            Edge.found("new: fault of text " + t, LuckJars::new, Due.NOTHING, y -> y.fault(t));
        }
        for (int k = 0; k < 3; k++) {
            int kept = k;
            Edge.found("new: on " + kept, LuckJars::new, Due.NOTHING, y -> y.on(kept));
        }
        Edge.refused("new: house", LuckJars::new, LuckJars.BAD, y -> y.house(0, 0));
    }

    // "ROWS 0 .. 5"; "BAD -1 (a number that is none ...)"
    private static void numbersOfRows() {
        LuckJars x = new LuckJars();
        for (int r = 0; r < 6; r++) {
            Due.is("row " + r, x.row(r, 2), 2);
            Due.is("lay " + r, x.lay(r, 1, 10 + r), 1);
        }
        for (int r = 0; r < 6; r++) {
            Due.tells("each row has its own place " + r, x, x.at(r, 1), 10 + r);
        }
        Due.is("six rows", x.count(7), 6);
        for (int r : Edge.beyond(0, 5)) {
            Edge.refused("row " + r, Edge::busy, LuckJars.BAD, y -> y.row(r, 1));
            Edge.refused("lay in " + r, Edge::busy, LuckJars.BAD, y -> y.lay(r, 0, 1));
            Edge.refused("at in " + r, Edge::busy, LuckJars.BAD, y -> y.at(r, 0));
            Edge.refused("tear " + r, Edge::busy, LuckJars.BAD, y -> y.tear(r));
            Edge.refused("copy from " + r, Edge::busy, LuckJars.BAD, y -> y.copy(r, 0, 1, 0, 0));
            Edge.refused("copy to " + r, Edge::busy, LuckJars.BAD, y -> y.copy(1, 0, r, 0, 0));
            Edge.refused("mean of " + r, Edge::busy, LuckJars.BAD, y -> y.mean(r));
        }
    }

    // "rows of 0 to 40 ints"; "A ROW is there with n ints 0: n."
    private static void sizesOfRows() {
        for (int n = 0; n <= 40; n++) {
            LuckJars x = new LuckJars();
            Due.is("row of " + n, x.row(5, n), n);
            Due.is("row of " + n + " is there", x.count(7), 1);
            if (n > 0) {
                Due.tells("row of " + n + ", the first place", x, x.lay(5, 0, n), 0);
                Due.tells("row of " + n + ", the last place", x, x.at(5, n - 1), n == 1 ? 1 : 0);
            }
            Due.finds("row of " + n + ", behind it", x, x.at(5, n), Due.BEYOND);
        }
    }

    // "A ROW is there with n ints 0": also where another one was.
    private static void allNoughts() {
        LuckJars x = new LuckJars();
        x.row(3, 40);
        for (int i = 0; i < 40; i++) {
            x.lay(3, i, -1);
        }
        Due.is("row: shorter", x.row(3, 1), 1);
        Due.tells("row: shorter, first", x, x.at(3, 0), 0);
        Due.is("row: longer again", x.row(3, 40), 40);
        for (int i = 0; i < 40; i++) {
            Due.tells("row: longer again " + i, x, x.at(3, i), 0);
        }
        Due.is("row: anew is no second one", x.count(7), 1);
        x.lay(3, 39, 5);
        x.tear(3);
        x.row(3, 40);
        Due.tells("row: torn, anew", x, x.at(3, 39), 0);
    }

    // "BAD: also n above 40"
    private static void tooLong() {
        for (int n : new int[] {41, 42, 1000, Due.MOST}) {
            Edge.refused("row of " + n, Edge::busy, LuckJars.BAD, x -> x.row(0, n));
            Edge.refused("row of " + n + ", missing", Edge::busy, LuckJars.BAD, x -> x.row(5, n));
        }
    }

    // "SIZE: below 0." behind BAD
    private static void fewerThanNone() {
        for (int n : new int[] {-1, -2, -41, Due.LEAST}) {
            Edge.found("row of " + n, Edge::busy, Due.SIZE, x -> x.row(0, n));
            Edge.found("row of " + n + ", missing", Edge::busy, Due.SIZE, x -> x.row(5, n));
            Edge.refused("row -1 of " + n, Edge::busy, LuckJars.BAD, x -> x.row(-1, n));
            Edge.refused("row 6 of " + n, Edge::busy, LuckJars.BAD, x -> x.row(6, n));
        }
    }

    // "Place i of a ROW is v: what it was, told by asked(): 1." with the least and the greatest int
    private static void layAndAt() {
        LuckJars x = new LuckJars();
        x.row(4, 40);
        Due.tells("lay: the first", x, x.lay(4, 0, Due.LEAST), 0);
        Due.tells("lay: the last", x, x.lay(4, 39, Due.MOST), 0);
        Due.tells("at: the least int", x, x.at(4, 0), Due.LEAST);
        Due.tells("at: the greatest int", x, x.at(4, 39), Due.MOST);
        Due.tells("lay: was the least int", x, x.lay(4, 0, -1), Due.LEAST);
        Due.tells("lay: was the greatest int", x, x.lay(4, 39, -9), Due.MOST);
        Due.tells("at: an answer's number is no refusal", x, x.at(4, 0), -1);
        Due.tells("at: beside the first", x, x.at(4, 1), 0);
        Due.tells("at: beside the last", x, x.at(4, 38), 0);
    }

    // lay, at: "BEYOND", "2 BEYOND (a place that there is not)"
    private static void placesBeyond() {
        for (int i : Edge.beyond(0, 2)) {
            Edge.found("lay at " + i, Edge::busy, Due.BEYOND, x -> x.lay(1, i, 5));
            Edge.found("at " + i, Edge::busy, Due.BEYOND, x -> x.at(1, i));
        }
        for (int i : new int[] {-1, 0, 1}) {
            Edge.found("lay in an empty row " + i, Edge::busy, Due.BEYOND, x -> x.lay(2, i, 5));
            Edge.found("at in an empty row " + i, Edge::busy, Due.BEYOND, x -> x.at(2, i));
        }
        LuckJars longest = new LuckJars();
        longest.row(0, 40);
        Due.finds("at 40 of 40", longest, longest.at(0, 40), Due.BEYOND);
        Due.finds("lay at 40 of 40", longest, longest.lay(0, 40, 1), Due.BEYOND);
    }

    // lay, at, tear, mean: "BAD; NOTHING"; lay, at: NOTHING ahead of BEYOND
    private static void missingRows() {
        for (int i : new int[] {-1, 0, 40}) {
            Edge.found("lay in a missing row at " + i, Edge::busy, Due.NOTHING, x -> x.lay(3, i, 5));
            Edge.found("at in a missing row at " + i, Edge::busy, Due.NOTHING, x -> x.at(3, i));
        }
        Edge.found("tear a missing row", Edge::busy, Due.NOTHING, x -> x.tear(3));
        Edge.found("mean of a missing row", Edge::busy, Due.NOTHING, x -> x.mean(3));
    }

    // "A ROW is missing: 1." also an empty one, also the longest
    private static void torn() {
        LuckJars x = Edge.busy();
        x.row(5, 40);
        Due.is("tear: an empty row", x.tear(2), 1);
        Due.is("tear: the longest row", x.tear(5), 1);
        Due.is("tear: rows left", x.count(7), 2);
        Due.finds("tear: twice", x, x.tear(5), Due.NOTHING);
        Due.finds("tear: what was there", x, x.at(5, 39), Due.NOTHING);
        Due.tells("tear: the others stay", x, x.at(1, 1), -8);
    }

    private static void rowIs(String call, LuckJars x, int r, int... want) {
        for (int i = 0; i < want.length; i++) {
            Due.tells(call + ": place " + i, x, x.at(r, i), want[i]);
        }
        Due.finds(call + ": no more", x, x.at(r, want.length), Due.BEYOND);
    }

    private static LuckJars oneToFive() {
        LuckJars x = new LuckJars();
        Due.row(x, 0, 1, 2, 3, 4, 5);
        return x;
    }

    // "come to those of another one (perhaps itself) from one on, as if taken ahead"
    private static void copiesAsIfTakenAhead() {
        LuckJars up = oneToFive();
        Due.is("copy: up by one", up.copy(0, 0, 0, 1, 4), 1);
        rowIs("copy: up by one", up, 0, 1, 1, 2, 3, 4);
        LuckJars down = oneToFive();
        Due.is("copy: down by one", down.copy(0, 1, 0, 0, 4), 1);
        rowIs("copy: down by one", down, 0, 2, 3, 4, 5, 5);
        LuckJars still = oneToFive();
        Due.is("copy: onto itself", still.copy(0, 0, 0, 0, 5), 1);
        rowIs("copy: onto itself", still, 0, 1, 2, 3, 4, 5);
        LuckJars apart = oneToFive();
        Due.is("copy: within, apart", apart.copy(0, 3, 0, 0, 2), 1);
        rowIs("copy: within, apart", apart, 0, 4, 5, 3, 4, 5);
        LuckJars all = new LuckJars();
        all.row(4, 40);
        all.row(5, 40);
        all.lay(4, 0, 7);
        all.lay(4, 39, 8);
        Due.is("copy: forty", all.copy(4, 0, 5, 0, 40), 1);
        Due.tells("copy: forty, the first", all, all.at(5, 0), 7);
        Due.tells("copy: forty, the last", all, all.at(5, 39), 8);
        Due.tells("copy: forty, taken from", all, all.at(4, 39), 8);
        Due.is("copy: one to the end", all.copy(4, 0, 5, 39, 1), 1);
        Due.tells("copy: one to the end", all, all.at(5, 39), 7);
    }

    // "BEYOND: not so many there (also with n 0 ...)": with n 0 all from 0 to the size is well, and changes nothing
    private static void copiesNone() {
        for (int i = 0; i <= 5; i++) {
            LuckJars x = oneToFive();
            x.row(1, 3);
            Due.is("copy: none from " + i, x.copy(0, i, 1, 3, 0), 1);
            Due.is("copy: none to " + i, x.copy(1, 3, 0, i, 0), 1);
            rowIs("copy: none", x, 0, 1, 2, 3, 4, 5);
            rowIs("copy: none", x, 1, 0, 0, 0);
        }
        LuckJars empty = new LuckJars();
        empty.row(0, 0);
        empty.row(1, 0);
        Due.is("copy: none of none", empty.copy(0, 0, 1, 0, 0), 1);
        Due.finds("copy: one of none", empty, empty.copy(0, 0, 1, 0, 1), Due.BEYOND);
    }

    // "BEYOND: not so many there (also with n 0, if i, j is below 0, or above its size)"
    private static void copyBeyond() {
        // From where and how many of a row of 3; the other one has 4.
        int[][] all = {{0, 4}, {1, 3}, {2, 2}, {3, 1}, {4, 0}, {4, 1}, {1, 4}, {-1, 0}, {-1, 1}, {-1, 4},
            {Due.LEAST, 0}, {Due.LEAST, 1}, {Due.LEAST, Due.MOST}, {Due.MOST, 0}, {Due.MOST, 1}, {Due.MOST, Due.MOST},
            {1, Due.MOST}, {2, Due.MOST - 1}};
        for (int[] one : all) {
            Edge.found("copy: from " + one[0] + ", " + one[1], Edge::busy, Due.BEYOND,
                x -> x.copy(1, one[0], 0, 0, one[1]));
            Edge.found("copy: to " + one[0] + ", " + one[1], Edge::busy, Due.BEYOND,
                x -> x.copy(0, 0, 1, one[0], one[1]));
        }
        Edge.found("copy: itself, one too far", Edge::busy, Due.BEYOND, x -> x.copy(1, 0, 1, 1, 3));
        Edge.found("copy: from an empty row, above", Edge::busy, Due.BEYOND, x -> x.copy(2, 1, 1, 0, 0));
        Edge.found("copy: to an empty row, above", Edge::busy, Due.BEYOND, x -> x.copy(1, 0, 2, 1, 0));
        Edge.found("copy: to an empty row", Edge::busy, Due.BEYOND, x -> x.copy(1, 0, 2, 0, 1));
    }

    // "1. BAD; SIZE: n below 0; NOTHING: either; BEYOND ... (In this order.)"
    private static void copyOrder() {
        Edge.refused("copy: BAD ahead of SIZE", Edge::busy, LuckJars.BAD, x -> x.copy(6, 9, 5, 9, -1));
        Edge.refused("copy: BAD there ahead of SIZE", Edge::busy, LuckJars.BAD, x -> x.copy(5, 9, 6, 9, -1));
        Edge.refused("copy: BAD ahead of NOTHING", Edge::busy, LuckJars.BAD, x -> x.copy(5, 9, -1, 9, 1));
        Edge.found("copy: SIZE ahead of NOTHING", Edge::busy, Due.SIZE, x -> x.copy(5, 9, 4, 9, -1));
        Edge.found("copy: SIZE ahead of BEYOND", Edge::busy, Due.SIZE, x -> x.copy(1, 9, 0, -9, Due.LEAST));
        Edge.found("copy: NOTHING, the first one", Edge::busy, Due.NOTHING, x -> x.copy(5, -1, 1, -1, 9));
        Edge.found("copy: NOTHING, the other one", Edge::busy, Due.NOTHING, x -> x.copy(1, -1, 5, -1, 9));
        Edge.found("copy: NOTHING, none of none", Edge::busy, Due.NOTHING, x -> x.copy(5, 0, 5, 0, 0));
    }

    private static int meanOf(int... numbers) {
        LuckJars x = new LuckJars();
        Due.row(x, 0, numbers);
        Due.is("mean", x.mean(0), 1);
        return x.asked();
    }

    // "The mean of a ROW's ints, cut"
    private static void meanCut() {
        Due.is("mean of 1, 2", meanOf(1, 2), 1);
        Due.is("mean of 0, 0, 2", meanOf(0, 0, 2), 0);
        Due.is("mean of 1, 1, 3", meanOf(1, 1, 3), 1);
        Due.is("mean of 2, 2, 2", meanOf(2, 2, 2), 2);
        Due.is("mean of -1, 0", meanOf(-1, 0), 0);
        Due.is("mean of -3, -4", meanOf(-3, -4), -3);
        Due.is("mean of -7", meanOf(-7), -7);
        Due.is("mean of 0", meanOf(0), 0);
    }

    // The sum goes round no int.
    private static void meanOfGreatSums() {
        Due.is("mean of the greatest", meanOf(Due.MOST, Due.MOST), Due.MOST);
        Due.is("mean of the least", meanOf(Due.LEAST, Due.LEAST, Due.LEAST), Due.LEAST);
        Due.is("mean of both", meanOf(Due.LEAST, Due.MOST), 0);
        Due.is("mean of the greatest and 1", meanOf(Due.MOST, 1), 1 << 30);
        int[] forty = new int[40];
        java.util.Arrays.fill(forty, Due.LEAST);
        Due.is("mean of forty", meanOf(forty), Due.LEAST);
        forty[39] = Due.MOST;
        Due.is("mean of forty, the last is another", meanOf(forty), -2040109465);
    }

    // "NOUGHT": "4 NOUGHT (shared among none)"
    private static void meanOfNone() {
        Edge.found("mean of none", Edge::busy, Due.NOUGHT, x -> x.mean(2));
        LuckJars x = new LuckJars();
        Due.row(x, 0, 9);
        x.row(0, 0);
        Due.finds("mean of a row that is empty now", x, x.mean(0), Due.NOUGHT);
    }
}
