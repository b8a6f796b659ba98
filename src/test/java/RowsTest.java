/** Promises 1 to 7: a new object, row, lay, at, tear, copy, mean. */
public final class RowsTest {
    private static final int BAD = IronedQuarrels.BAD, FINDING = IronedQuarrels.FINDING;
    private static final int MOST = Integer.MAX_VALUE, LEAST = Integer.MIN_VALUE;
    private static final Due DUE = new Due();

    public static void main(String[] args) {
        newObject();
        row();
        lay();
        at();
        tear();
        copy();
        copyRefused();
        mean();
        DUE.finish("RowsTest");
    }

    private static void newObject() {
        IronedQuarrels x = new IronedQuarrels();
        for (int what = 0; what <= 8; what++) {
            DUE.is("new count " + what, x.count(what), 0);
        }
        for (int r = 0; r < 6; r++) {
            DUE.finds("new at " + r, x.at(r, 0), x, 1);
        }
        for (int t = 0; t < 4; t++) {
            DUE.finds("new fault " + t, x.fault(t), x, 1);
        }
        for (int k = 0; k < 3; k++) {
            DUE.finds("new on " + k, x.on(k), x, 1);
        }
        DUE.is("two objects share nothing", new IronedQuarrels().findings(1), 0);
    }

    private static void row() {
        IronedQuarrels x = new IronedQuarrels();
        DUE.is("row(-1, 0)", x.row(-1, 0), BAD);
        DUE.is("row(6, 0)", x.row(6, 0), BAD);
        DUE.is("row(0, 41)", x.row(0, 41), BAD);
        DUE.is("row(6, -1) is BAD ahead of SIZE", x.row(6, -1), BAD);
        DUE.is("row(0, most)", x.row(0, MOST), BAD);
        DUE.is("no finding", x.finding(), 0);
        DUE.finds("row(0, -1)", x.row(0, -1), x, 5);
        DUE.finds("row(0, least)", x.row(0, LEAST), x, 5);
        DUE.is("still no ROW", x.count(6), 0);
        DUE.is("row(5, 40)", x.row(5, 40), 40);
        DUE.is("row(0, 0)", x.row(0, 0), 0);
        DUE.is("two ROWS", x.count(6), 2);
        DUE.is("lay(5, 39, 4)", x.lay(5, 39, 4), 1);
        DUE.is("row(5, 40) anew", x.row(5, 40), 40);
        DUE.is("at(5, 39)", x.at(5, 39), 1);
        DUE.is("0 again", x.asked(), 0);
        x.lay(5, 2, 8);
        DUE.is("row(5, 3) anew", x.row(5, 3), 3);
        Texts.rowIs(DUE, x, 5, 0, 0, 0);
        DUE.finds("row(5, -1)", x.row(5, -1), x, 5);
        Texts.rowIs(DUE, x, 5, 0, 0, 0);
        DUE.is("row(5, 41)", x.row(5, 41), BAD);
        Texts.rowIs(DUE, x, 5, 0, 0, 0);
    }

    private static void lay() {
        IronedQuarrels x = new IronedQuarrels();
        DUE.is("lay(-1, 0, 0)", x.lay(-1, 0, 0), BAD);
        DUE.is("lay(6, 0, 0)", x.lay(6, 0, 0), BAD);
        DUE.finds("lay(0, 0, 0)", x.lay(0, 0, 0), x, 1);
        x.row(0, 2);
        DUE.finds("lay(0, 2, 0)", x.lay(0, 2, 0), x, 2);
        DUE.finds("lay(0, -1, 0)", x.lay(0, -1, 0), x, 2);
        DUE.finds("lay(0, most, 0)", x.lay(0, MOST, 0), x, 2);
        DUE.is("lay(0, 1, most)", x.lay(0, 1, MOST), 1);
        DUE.is("what it was", x.asked(), 0);
        DUE.is("lay(0, 1, least)", x.lay(0, 1, LEAST), 1);
        DUE.is("what it was", x.asked(), MOST);
        DUE.is("lay(0, 2, 0) refused", x.lay(0, 2, 0), FINDING);
        DUE.is("asked() stays", x.asked(), MOST);
        Texts.rowIs(DUE, x, 0, 0, LEAST);
    }

    private static void at() {
        IronedQuarrels x = new IronedQuarrels();
        DUE.is("at(-1, 0)", x.at(-1, 0), BAD);
        DUE.is("at(6, 0)", x.at(6, 0), BAD);
        DUE.finds("at(1, 0)", x.at(1, 0), x, 1);
        x.row(1, 0);
        DUE.finds("at(1, 0)", x.at(1, 0), x, 2);
        Texts.fill(x, 1, 7, -7);
        DUE.finds("at(1, 2)", x.at(1, 2), x, 2);
        DUE.finds("at(1, -1)", x.at(1, -1), x, 2);
        DUE.finds("at(1, least)", x.at(1, LEAST), x, 2);
        DUE.is("at(1, 0)", x.at(1, 0), 1);
        DUE.is("told", x.asked(), 7);
        DUE.is("at(1, 1)", x.at(1, 1), 1);
        DUE.is("told", x.asked(), -7);
        DUE.is("at(1, 2) refused", x.at(1, 2), FINDING);
        DUE.is("asked() stays", x.asked(), -7);
    }

    private static void tear() {
        IronedQuarrels x = new IronedQuarrels();
        DUE.is("tear(-1)", x.tear(-1), BAD);
        DUE.is("tear(6)", x.tear(6), BAD);
        DUE.finds("tear(0)", x.tear(0), x, 1);
        x.row(0, 1);
        x.row(1, 1);
        DUE.is("tear(0)", x.tear(0), 1);
        DUE.is("one ROW", x.count(6), 1);
        DUE.finds("at(0, 0)", x.at(0, 0), x, 1);
        DUE.finds("tear(0) again", x.tear(0), x, 1);
        DUE.is("the other one stays", x.at(1, 0), 1);
    }

    private static void copy() {
        IronedQuarrels x = new IronedQuarrels();
        Texts.fill(x, 0, 1, 2, 3, 4, 5);
        Texts.fill(x, 1, 9, 8, 7);
        DUE.is("copy to another", x.copy(0, 3, 1, 1, 2), 1);
        Texts.rowIs(DUE, x, 1, 9, 4, 5);
        Texts.rowIs(DUE, x, 0, 1, 2, 3, 4, 5);
        DUE.is("copy up in itself", x.copy(0, 0, 0, 1, 4), 1);
        Texts.rowIs(DUE, x, 0, 1, 1, 2, 3, 4);
        DUE.is("copy down in itself", x.copy(0, 2, 0, 0, 3), 1);
        Texts.rowIs(DUE, x, 0, 2, 3, 4, 3, 4);
        DUE.is("copy all", x.copy(1, 0, 0, 0, 3), 1);
        Texts.rowIs(DUE, x, 0, 9, 4, 5, 3, 4);
        DUE.is("copy none, from the ends", x.copy(0, 5, 1, 3, 0), 1);
        Texts.rowIs(DUE, x, 1, 9, 4, 5);
        Texts.fill(x, 5);
        DUE.is("copy none of none", x.copy(5, 0, 5, 0, 0), 1);
    }

    private static void copyRefused() {
        IronedQuarrels x = new IronedQuarrels();
        Texts.fill(x, 0, 1, 2, 3);
        Texts.fill(x, 1, 4, 5);
        DUE.is("copy(-1, ..)", x.copy(-1, 0, 0, 0, 1), BAD);
        DUE.is("copy(6, ..)", x.copy(6, 0, 0, 0, 1), BAD);
        DUE.is("copy(.., -1, ..)", x.copy(0, 0, -1, 0, 1), BAD);
        DUE.is("copy(.., 6, ..)", x.copy(0, 0, 6, 0, -1), BAD);
        DUE.finds("n -1, ahead of NOTHING", x.copy(2, 0, 0, 0, -1), x, 5);
        DUE.finds("n least", x.copy(0, 0, 1, 0, LEAST), x, 5);
        DUE.finds("from none, ahead of BEYOND", x.copy(2, 9, 0, 0, 1), x, 1);
        DUE.finds("to none", x.copy(0, 0, 2, 0, 0), x, 1);
        DUE.finds("too many from", x.copy(1, 0, 0, 0, 3), x, 2);
        DUE.finds("too many to", x.copy(0, 0, 1, 0, 3), x, 2);
        DUE.finds("too far on from", x.copy(0, 2, 1, 0, 2), x, 2);
        DUE.finds("too far on to", x.copy(0, 0, 1, 1, 2), x, 2);
        DUE.finds("n 0, i -1", x.copy(0, -1, 1, 0, 0), x, 2);
        DUE.finds("n 0, i above", x.copy(0, 4, 1, 0, 0), x, 2);
        DUE.finds("n 0, j -1", x.copy(0, 0, 1, -1, 0), x, 2);
        DUE.finds("n 0, j above", x.copy(0, 0, 1, 3, 0), x, 2);
        DUE.finds("most", x.copy(0, MOST, 1, MOST, MOST), x, 2);
        DUE.finds("n most", x.copy(0, 1, 1, 1, MOST), x, 2);
        DUE.finds("i least", x.copy(0, LEAST, 1, 0, MOST), x, 2);
        Texts.rowIs(DUE, x, 0, 1, 2, 3);
        Texts.rowIs(DUE, x, 1, 4, 5);
    }

    private static void mean() {
        IronedQuarrels x = new IronedQuarrels();
        DUE.is("mean(-1)", x.mean(-1), BAD);
        DUE.is("mean(6)", x.mean(6), BAD);
        DUE.finds("mean(0)", x.mean(0), x, 1);
        x.row(0, 0);
        DUE.finds("mean of none", x.mean(0), x, 4);
        DUE.is("asked() stays", x.asked(), 0);
        meanIs(x, 2, 1, 2, 3);
        meanIs(x, -8, -8);
        meanIs(x, 2, 2, 3);
        meanIs(x, -2, -2, -3);
        meanIs(x, 0, -1, 0);
        meanIs(x, MOST, MOST, MOST, MOST);
        meanIs(x, LEAST, LEAST, LEAST);
        meanIs(x, 0, MOST, LEAST);
    }

    private static void meanIs(IronedQuarrels x, int want, int... places) {
        Texts.fill(x, 0, places);
        DUE.is("mean(0)", x.mean(0), 1);
        DUE.is("the mean", x.asked(), want);
    }
}
