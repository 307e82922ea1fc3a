/** Promises 1 to 7: a new object, row, lay, at, tear, copy, mean. */
public final class RowsTest {
    public static void main(String[] args) {
        newObject();
        row();
        lay();
        at();
        tear();
        copy();
        copyRefused();
        mean();
        Due.end("RowsTest");
    }

    private static void newObject() {
        LuckJars x = new LuckJars();
        for (int what = 0; what < 12; what++) {
            Due.is("new: count " + what, x.count(what), 0);
        }
        Due.is("new: asked", x.asked(), 0);
        Due.is("new: upper", x.upper(), 0);
        Due.is("new: lower", x.lower(), 1);
        Due.is("new: finding", x.finding(), 0);
        for (int f = 1; f <= 5; f++) {
            Due.is("new: findings " + f, x.findings(f), 0);
        }
        for (int r = 0; r < 6; r++) {
            Due.finds("new: tear " + r, x, x.tear(r), Due.NOTHING);
        }
        for (int t = 0; t < 4; t++) {
            Due.finds("new: fault " + t, x, x.fault(t), Due.NOTHING);
        }
        for (int k = 0; k < 3; k++) {
            Due.finds("new: on " + k, x, x.on(k), Due.NOTHING);
        }
        Due.is("new: house", x.house(0, 0), LuckJars.BAD);
    }

    private static void row() {
        LuckJars x = new LuckJars();
        for (int r = 0; r < 6; r++) {
            Due.is("row " + r, x.row(r, 40), 40);
            Due.tells("row: first", x, x.at(r, 0), 0);
            Due.tells("row: last", x, x.at(r, 39), 0);
        }
        Due.is("row: lay", x.lay(2, 3, 7), 1);
        Due.is("row: anew", x.row(2, 4), 4);
        Due.tells("row: nought anew", x, x.at(2, 3), 0);
        Due.finds("row: shorter", x, x.at(2, 4), Due.BEYOND);
        Due.is("row: empty", x.row(3, 0), 0);
        Due.finds("row: empty at", x, x.at(3, 0), Due.BEYOND);
        Due.is("row: long", x.row(0, 41), LuckJars.BAD);
        Due.is("row: longest", x.row(0, Due.MOST), LuckJars.BAD);
        Due.is("row: -1", x.row(-1, 3), LuckJars.BAD);
        Due.is("row: 6", x.row(6, 3), LuckJars.BAD);
        Due.is("row: 6, size", x.row(6, -1), LuckJars.BAD);
        Due.finds("row: size", x, x.row(0, -1), Due.SIZE);
        Due.finds("row: least", x, x.row(0, Due.LEAST), Due.SIZE);
        Due.tells("row: stays", x, x.at(0, 39), 0);
    }

    private static void lay() {
        LuckJars x = new LuckJars();
        x.row(1, 2);
        Due.tells("lay: was 0", x, x.lay(1, 1, Due.LEAST), 0);
        Due.tells("lay: was least", x, x.lay(1, 1, Due.MOST), Due.LEAST);
        Due.tells("lay: was most", x, x.lay(1, 1, 5), Due.MOST);
        Due.is("lay: -1", x.lay(-1, 0, 1), LuckJars.BAD);
        Due.is("lay: 6", x.lay(6, 0, 1), LuckJars.BAD);
        Due.finds("lay: missing", x, x.lay(0, -1, 1), Due.NOTHING);
        Due.finds("lay: below", x, x.lay(1, -1, 1), Due.BEYOND);
        Due.finds("lay: above", x, x.lay(1, 2, 1), Due.BEYOND);
        Due.is("lay: asked stays", x.asked(), Due.MOST);
        Due.tells("lay: other place", x, x.at(1, 0), 0);
    }

    private static void at() {
        LuckJars x = new LuckJars();
        Due.row(x, 5, 3, -4, 9);
        Due.tells("at 0", x, x.at(5, 0), 3);
        Due.tells("at 1", x, x.at(5, 1), -4);
        Due.tells("at 2", x, x.at(5, 2), 9);
        Due.is("at: -1", x.at(-1, 0), LuckJars.BAD);
        Due.is("at: 6", x.at(6, 0), LuckJars.BAD);
        Due.finds("at: missing", x, x.at(4, 0), Due.NOTHING);
        Due.finds("at: below", x, x.at(5, -1), Due.BEYOND);
        Due.finds("at: above", x, x.at(5, 3), Due.BEYOND);
        Due.finds("at: most", x, x.at(5, Due.MOST), Due.BEYOND);
        Due.is("at: asked stays", x.asked(), 9);
    }

    private static void tear() {
        LuckJars x = new LuckJars();
        x.row(0, 0);
        Due.row(x, 3, 8);
        Due.is("tear", x.tear(3), 1);
        Due.is("tear: rows", x.count(7), 1);
        Due.finds("tear: again", x, x.tear(3), Due.NOTHING);
        Due.finds("tear: at", x, x.at(3, 0), Due.NOTHING);
        Due.is("tear: empty", x.tear(0), 1);
        Due.is("tear: -1", x.tear(-1), LuckJars.BAD);
        Due.is("tear: 6", x.tear(6), LuckJars.BAD);
        Due.is("tear: anew", x.row(3, 1), 1);
        Due.tells("tear: anew nought", x, x.at(3, 0), 0);
    }

    private static void copy() {
        LuckJars x = new LuckJars();
        Due.row(x, 0, 1, 2, 3, 4, 5);
        Due.row(x, 1, 7, 8, 9);
        Due.is("copy to another", x.copy(0, 3, 1, 1, 2), 1);
        rowIs("copy to another", x, 1, 7, 4, 5);
        rowIs("copy leaves", x, 0, 1, 2, 3, 4, 5);
        Due.is("copy up in itself", x.copy(0, 0, 0, 1, 4), 1);
        rowIs("copy up in itself", x, 0, 1, 1, 2, 3, 4);
        Due.is("copy down in itself", x.copy(0, 2, 0, 0, 3), 1);
        rowIs("copy down in itself", x, 0, 2, 3, 4, 3, 4);
        Due.is("copy all", x.copy(1, 0, 0, 2, 3), 1);
        rowIs("copy all", x, 0, 2, 3, 7, 4, 5);
        Due.is("copy none at the ends", x.copy(0, 5, 1, 3, 0), 1);
        x.row(2, 0);
        Due.is("copy none of an empty one", x.copy(2, 0, 2, 0, 0), 1);
    }

    private static void rowIs(String call, LuckJars x, int r, int... want) {
        for (int i = 0; i < want.length; i++) {
            Due.tells(call + " " + i, x, x.at(r, i), want[i]);
        }
    }

    private static void copyRefused() {
        LuckJars x = new LuckJars();
        x.row(0, 5);
        x.row(1, 3);
        Due.is("copy: -1", x.copy(-1, 0, 1, 0, -1), LuckJars.BAD);
        Due.is("copy: 6", x.copy(6, 0, 1, 0, 1), LuckJars.BAD);
        Due.is("copy: to -1", x.copy(0, 0, -1, 0, -1), LuckJars.BAD);
        Due.is("copy: to 6", x.copy(0, 0, 6, 0, 1), LuckJars.BAD);
        Due.finds("copy: size ahead of nothing", x, x.copy(2, 0, 3, 0, -1), Due.SIZE);
        Due.finds("copy: nothing", x, x.copy(2, 9, 1, 9, 1), Due.NOTHING);
        Due.finds("copy: to nothing", x, x.copy(0, 9, 2, 9, 1), Due.NOTHING);
        Due.finds("copy: too many", x, x.copy(0, 0, 1, 0, 4), Due.BEYOND);
        Due.finds("copy: too many there", x, x.copy(1, 1, 0, 0, 3), Due.BEYOND);
        Due.finds("copy: i below", x, x.copy(0, -1, 1, 0, 0), Due.BEYOND);
        Due.finds("copy: j below", x, x.copy(0, 0, 1, -1, 0), Due.BEYOND);
        Due.finds("copy: i above", x, x.copy(0, 6, 1, 0, 0), Due.BEYOND);
        Due.finds("copy: j above", x, x.copy(0, 0, 1, 4, 0), Due.BEYOND);
        Due.finds("copy: most", x, x.copy(0, Due.MOST, 1, 0, Due.MOST), Due.BEYOND);
        Due.finds("copy: most n", x, x.copy(0, 1, 1, 1, Due.MOST), Due.BEYOND);
        Due.finds("copy: least i", x, x.copy(0, Due.LEAST, 1, 0, 1), Due.BEYOND);
    }

    private static void mean() {
        LuckJars x = new LuckJars();
        Due.row(x, 0, 1, 2, 2);
        Due.tells("mean: cut", x, x.mean(0), 1);
        Due.row(x, 0, -1, -2, -2);
        Due.tells("mean: cut below 0", x, x.mean(0), -1);
        Due.row(x, 0, Due.MOST, Due.MOST, Due.MOST);
        Due.tells("mean: most", x, x.mean(0), Due.MOST);
        Due.row(x, 0, Due.LEAST, Due.LEAST);
        Due.tells("mean: least", x, x.mean(0), Due.LEAST);
        Due.row(x, 0, 5);
        Due.tells("mean: one", x, x.mean(0), 5);
        x.row(2, 40);
        for (int i = 0; i < 40; i++) {
            x.lay(2, i, 3 * i);
        }
        Due.tells("mean: of forty", x, x.mean(2), 58);
        Due.tells("mean: of one again", x, x.mean(0), 5);
        Due.is("mean: -1", x.mean(-1), LuckJars.BAD);
        Due.is("mean: 6", x.mean(6), LuckJars.BAD);
        Due.finds("mean: missing", x, x.mean(1), Due.NOTHING);
        x.row(1, 0);
        Due.finds("mean: of none", x, x.mean(1), Due.NOUGHT);
        Due.is("mean: asked stays", x.asked(), 5);
    }
}
