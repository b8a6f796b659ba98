/** Each sentence of "Terms", 1, and of promises 1 to 9 that names a bound of ROWS and TEXTS. */
public final class RowBoundsTest {
    private static final int BAD = IronedQuarrels.BAD;
    private static final int NOTHING = 1, BEYOND = 2, NOUGHT = 4, SIZE = 5;
    private static final int MOST = Integer.MAX_VALUE, LEAST = Integer.MIN_VALUE;
    private static final Due DUE = new Due();

    public static void main(String[] args) {
        rowsAreSix();
        rowsHoldForty();
        rowsHoldInts();
        rowsAreMissingAtFirst();
        textsAreFour();
        textsHoldEighty();
        textsAreMissingAtFirst();
        newObject();
        rowIsThere();
        rowAboveForty();
        rowBelowNone();
        layTellsWhatItWas();
        layBeyond();
        atBeyond();
        tearMakesMissing();
        copyNone();
        copyBelowNone();
        copyEither();
        copyNotSoMany();
        copyBehindTheEnd();
        copyWrapsNotAround();
        copyAsIfTakenAhead();
        meanIsCut();
        meanAboveAnInt();
        meanOfNone();
        textIsThere();
        textAboveEighty();
        textBelowNone();
        putIsCut();
        putBeyond();
        DUE.finish("RowBoundsTest");
    }

    // ---- Terms, 1

    private static void rowsAreSix() {
        DUE.sentence("ROWS 0 .. 5");
        IronedQuarrels x = new IronedQuarrels();
        for (int r : new int[] {0, 5}) {
            DUE.is("row " + r, x.row(r, 1), 1);
            DUE.is("lay " + r, x.lay(r, 0, 8), 1);
            DUE.is("at " + r, x.at(r, 0), 1);
            DUE.is("mean " + r, x.mean(r), 1);
            DUE.is("copy " + r, x.copy(r, 0, r, 0, 1), 1);
            DUE.is("longest " + r, x.longest(r), 0);
            DUE.is("cheapest " + r, x.cheapest(r), 0);
            DUE.is("judge " + r, x.judge(r), 0);
            DUE.is("tear " + r, x.tear(r), 1);
        }
        x.row(0, 1);
        for (int r : new int[] {-1, 6, MOST, LEAST}) {
            DUE.is("row " + r, x.row(r, 1), BAD);
            DUE.is("lay " + r, x.lay(r, 0, 8), BAD);
            DUE.is("at " + r, x.at(r, 0), BAD);
            DUE.is("mean " + r, x.mean(r), BAD);
            DUE.is("copy from " + r, x.copy(r, 0, 0, 0, 1), BAD);
            DUE.is("copy to " + r, x.copy(0, 0, r, 0, 1), BAD);
            DUE.is("longest " + r, x.longest(r), BAD);
            DUE.is("cheapest " + r, x.cheapest(r), BAD);
            DUE.is("judge " + r, x.judge(r), BAD);
            DUE.is("tear " + r, x.tear(r), BAD);
        }
        DUE.is("how many", x.count(6), 1);
        for (int r = 0; r < 6; r++) {
            x.row(r, 40);
        }
        DUE.is("how many at most", x.count(6), 6);
    }

    private static void rowsHoldForty() {
        DUE.sentence("are rows of 0 to 40 ints");
        IronedQuarrels x = new IronedQuarrels();
        DUE.is("row(0, 0)", x.row(0, 0), 0);
        DUE.is("it is there", x.count(6), 1);
        for (int r = 0; r < 6; r++) {
            DUE.is("row(" + r + ", 40)", x.row(r, 40), 40);
        }
        // none shares a place with the next one
        for (int r = 0; r < 6; r++) {
            x.lay(r, 0, 100 + r);
            x.lay(r, 39, 200 + r);
        }
        for (int r = 0; r < 6; r++) {
            DUE.tells("at(" + r + ", 0)", x.at(r, 0), x, 100 + r);
            DUE.tells("at(" + r + ", 39)", x.at(r, 39), x, 200 + r);
            DUE.finds("at(" + r + ", 40)", x.at(r, 40), x, BEYOND);
        }
    }

    private static void rowsHoldInts() {
        DUE.sentence("are rows of 0 to 40 ints");
        IronedQuarrels x = new IronedQuarrels();
        x.row(3, 1);
        for (int v : new int[] {MOST, LEAST, -1, 0, 128, 1 << 16}) {
            DUE.is("lay " + v, x.lay(3, 0, v), 1);
            DUE.tells("at(3, 0)", x.at(3, 0), x, v);
        }
    }

    private static void rowsAreMissingAtFirst() {
        DUE.sentence("or missing (at first)");
        IronedQuarrels x = new IronedQuarrels();
        for (int r = 0; r < 6; r++) {
            DUE.finds("at(" + r + ", 0)", x.at(r, 0), x, NOTHING);
            DUE.finds("tear(" + r + ")", x.tear(r), x, NOTHING);
        }
        DUE.is("how many ROWS", x.count(6), 0);
    }

    private static void textsAreFour() {
        DUE.sentence("TEXTS 0 .. 3");
        IronedQuarrels x = new IronedQuarrels();
        for (int t : new int[] {0, 3}) {
            DUE.is("text " + t, x.text(t, 1), 1);
            DUE.is("put " + t, x.put(t, 0, 32), 1032);
            DUE.is("fault " + t, x.fault(t), IronedQuarrels.NONE);
            DUE.is("heap " + t, x.heap(t), 0);
        }
        for (int t : new int[] {-1, 4, MOST, LEAST}) {
            DUE.is("text " + t, x.text(t, 1), BAD);
            DUE.is("put " + t, x.put(t, 0, 32), BAD);
            DUE.is("fault " + t, x.fault(t), BAD);
            DUE.is("heap " + t, x.heap(t), BAD);
        }
        DUE.is("how many", x.count(7), 2);
        x.text(1, 80);
        x.text(2, 0);
        DUE.is("how many at most", x.count(7), 4);
    }

    private static void textsHoldEighty() {
        DUE.sentence("rows of 0 to 80 bytes");
        IronedQuarrels x = new IronedQuarrels();
        DUE.is("text(0, 0)", x.text(0, 0), 0);
        DUE.is("it is there", x.count(7), 1);
        for (int t = 0; t < 4; t++) {
            DUE.is("text(" + t + ", 80)", x.text(t, 80), 80);
        }
        for (int t = 0; t < 4; t++) {
            DUE.is("put(" + t + ", 0)", x.put(t, 0, t), 1032);
            DUE.is("put(" + t + ", 79)", x.put(t, 79, 10 + t), 1032);
        }
        for (int t = 0; t < 4; t++) {
            DUE.is("put(" + t + ", 0) again", x.put(t, 0, 0), 1000 + t);
            DUE.is("put(" + t + ", 79) again", x.put(t, 79, 0), 1010 + t);
            DUE.finds("put(" + t + ", 80)", x.put(t, 80, 0), x, BEYOND);
        }
    }

    private static void textsAreMissingAtFirst() {
        DUE.sentence("or missing (at first)");
        IronedQuarrels x = new IronedQuarrels();
        for (int t = 0; t < 4; t++) {
            DUE.finds("put(" + t + ", 0, 32)", x.put(t, 0, 32), x, NOTHING);
            DUE.finds("fault(" + t + ")", x.fault(t), x, NOTHING);
            DUE.finds("heap(" + t + ")", x.heap(t), x, NOTHING);
        }
        DUE.is("how many TEXTS", x.count(7), 0);
    }

    // ---- Promise 1

    private static void newObject() {
        DUE.sentence("No ROWS, TEXTS, SAYINGS.");
        IronedQuarrels x = new IronedQuarrels();
        DUE.is("ROWS", x.count(6), 0);
        DUE.is("TEXTS", x.count(7), 0);
        DUE.is("SAYINGS", x.count(0), 0);
        DUE.is("saying(0, 0)", x.saying(0, 0), BAD);
        DUE.is("upper()", x.upper(), 0);
        DUE.is("lower()", x.lower(), 1);
        DUE.is("asked()", x.asked(), 0);
        DUE.is("finding()", x.finding(), 0);
    }

    // ---- Promise 2

    private static void rowIsThere() {
        DUE.sentence("A ROW is there with n ints 0: n.");
        IronedQuarrels x = new IronedQuarrels();
        for (int n : new int[] {40, 1, 0, 40, 39, 40}) {
            DUE.is("row(2, " + n + ")", x.row(2, n), n);
            for (int i = 0; i < n; i++) {
                x.at(2, i);
                DUE.is("place " + i + " of " + n, x.asked(), 0);
                x.lay(2, i, 7);
            }
            DUE.finds("at(2, " + n + ")", x.at(2, n), x, BEYOND);
            DUE.is("how many ROWS", x.count(6), 1);
        }
    }

    private static void rowAboveForty() {
        DUE.sentence("BAD: also n above 40");
        IronedQuarrels x = new IronedQuarrels();
        DUE.is("row(0, 40)", x.row(0, 40), 40);
        DUE.is("row(1, 41)", x.row(1, 41), BAD);
        DUE.is("row(1, most)", x.row(1, MOST), BAD);
        DUE.is("how many ROWS", x.count(6), 1);
    }

    private static void rowBelowNone() {
        DUE.sentence("SIZE: below 0");
        IronedQuarrels x = new IronedQuarrels();
        DUE.is("row(0, 0)", x.row(0, 0), 0);
        DUE.finds("row(1, -1)", x.row(1, -1), x, SIZE);
        DUE.finds("row(1, least)", x.row(1, LEAST), x, SIZE);
        DUE.is("how many ROWS", x.count(6), 1);
    }

    // ---- Promises 3 to 5

    private static void layTellsWhatItWas() {
        DUE.sentence("Place i of a ROW is v: what it was, told by asked(): 1.");
        IronedQuarrels x = new IronedQuarrels();
        x.row(0, 40);
        DUE.tells("lay(0, 0, 3)", x.lay(0, 0, 3), x, 0);
        DUE.tells("lay(0, 39, 4)", x.lay(0, 39, 4), x, 0);
        DUE.tells("lay(0, 0, 3)", x.lay(0, 0, 3), x, 3);
        DUE.tells("lay(0, 39, 5)", x.lay(0, 39, 5), x, 4);
        DUE.tells("at(0, 1)", x.at(0, 1), x, 0);
        DUE.tells("at(0, 38)", x.at(0, 38), x, 0);
    }

    private static void layBeyond() {
        DUE.sentence("2 BEYOND (a place that there is not)");
        IronedQuarrels x = new IronedQuarrels();
        x.row(0, 3);
        DUE.is("lay(0, 0, 1)", x.lay(0, 0, 1), 1);
        DUE.finds("lay(0, -1, 1)", x.lay(0, -1, 1), x, BEYOND);
        DUE.is("lay(0, 2, 1)", x.lay(0, 2, 1), 1);
        DUE.finds("lay(0, 3, 1)", x.lay(0, 3, 1), x, BEYOND);
        x.row(1, 0);
        DUE.finds("lay(1, 0, 1)", x.lay(1, 0, 1), x, BEYOND);
        DUE.finds("lay(1, least, 1)", x.lay(1, LEAST, 1), x, BEYOND);
    }

    private static void atBeyond() {
        DUE.sentence("2 BEYOND (a place that there is not)");
        IronedQuarrels x = new IronedQuarrels();
        x.row(0, 3);
        DUE.is("at(0, 0)", x.at(0, 0), 1);
        DUE.finds("at(0, -1)", x.at(0, -1), x, BEYOND);
        DUE.is("at(0, 2)", x.at(0, 2), 1);
        DUE.finds("at(0, 3)", x.at(0, 3), x, BEYOND);
        x.row(1, 0);
        DUE.finds("at(1, 0)", x.at(1, 0), x, BEYOND);
        DUE.finds("at(1, most)", x.at(1, MOST), x, BEYOND);
        // a ROW made smaller has no more places than it is told
        x.row(0, 2);
        DUE.finds("at(0, 2)", x.at(0, 2), x, BEYOND);
    }

    private static void tearMakesMissing() {
        DUE.sentence("A ROW is missing: 1.");
        IronedQuarrels x = new IronedQuarrels();
        x.row(5, 0);
        x.row(0, 40);
        DUE.is("tear of an empty one", x.tear(5), 1);
        DUE.is("tear of a full one", x.tear(0), 1);
        DUE.is("how many ROWS", x.count(6), 0);
        DUE.finds("tear(5) again", x.tear(5), x, NOTHING);
        DUE.finds("lay(0, 0, 1)", x.lay(0, 0, 1), x, NOTHING);
        DUE.finds("mean(0)", x.mean(0), x, NOTHING);
        DUE.finds("judge(0)", x.judge(0), x, NOTHING);
    }

    // ---- Promise 6

    private static IronedQuarrels withRows() {
        IronedQuarrels x = new IronedQuarrels();
        Texts.fill(x, 0, 1, 2, 3, 4);
        Texts.fill(x, 1, 5, 6, 7);
        x.row(2, 0);
        return x;
    }

    private static void copyNone() {
        DUE.sentence("BEYOND: not so many there (also with n 0, if i, j is below 0, or above its size).");
        IronedQuarrels x = withRows();
        DUE.is("i 0, j 0", x.copy(0, 0, 1, 0, 0), 1);
        DUE.is("i at the end", x.copy(0, 4, 1, 0, 0), 1);
        DUE.finds("i above", x.copy(0, 5, 1, 0, 0), x, BEYOND);
        DUE.finds("i below", x.copy(0, -1, 1, 0, 0), x, BEYOND);
        DUE.is("j at the end", x.copy(0, 0, 1, 3, 0), 1);
        DUE.finds("j above", x.copy(0, 0, 1, 4, 0), x, BEYOND);
        DUE.finds("j below", x.copy(0, 0, 1, -1, 0), x, BEYOND);
        DUE.is("of none to none", x.copy(2, 0, 2, 0, 0), 1);
        DUE.finds("i above none", x.copy(2, 1, 2, 0, 0), x, BEYOND);
        DUE.finds("j above none", x.copy(2, 0, 2, 1, 0), x, BEYOND);
        Texts.rowIs(DUE, x, 0, 1, 2, 3, 4);
        Texts.rowIs(DUE, x, 1, 5, 6, 7);
    }

    private static void copyBelowNone() {
        DUE.sentence("SIZE: n below 0");
        IronedQuarrels x = withRows();
        DUE.is("n 0", x.copy(0, 1, 1, 1, 0), 1);
        DUE.finds("n -1", x.copy(0, 1, 1, 1, -1), x, SIZE);
        DUE.finds("n least", x.copy(0, 1, 1, 1, LEAST), x, SIZE);
    }

    private static void copyEither() {
        DUE.sentence("NOTHING: either");
        IronedQuarrels x = withRows();
        DUE.finds("from none", x.copy(3, 0, 1, 0, 1), x, NOTHING);
        DUE.finds("to none", x.copy(1, 0, 3, 0, 1), x, NOTHING);
        DUE.finds("none from none", x.copy(3, 0, 4, 0, 0), x, NOTHING);
        DUE.finds("none from itself", x.copy(3, 0, 3, 0, 0), x, NOTHING);
        DUE.is("how many ROWS", x.count(6), 3);
    }

    private static void copyNotSoMany() {
        DUE.sentence("BEYOND: not so many there");
        IronedQuarrels x = withRows();
        DUE.is("all of the lesser one", x.copy(1, 0, 0, 0, 3), 1);
        DUE.finds("one more than there are to take", x.copy(1, 0, 0, 0, 4), x, BEYOND);
        DUE.is("as many as there is room for", x.copy(0, 0, 1, 0, 3), 1);
        DUE.finds("one more than there is room for", x.copy(0, 0, 1, 0, 4), x, BEYOND);
        DUE.is("the last one", x.copy(0, 3, 1, 2, 1), 1);
        DUE.finds("one behind the last one", x.copy(0, 4, 1, 2, 1), x, BEYOND);
        DUE.finds("to behind the last one", x.copy(0, 3, 1, 3, 1), x, BEYOND);
        DUE.finds("two from the last one", x.copy(0, 3, 1, 0, 2), x, BEYOND);
        DUE.finds("two to the last one", x.copy(0, 0, 1, 2, 2), x, BEYOND);
        DUE.finds("one from -1", x.copy(0, -1, 1, 0, 1), x, BEYOND);
        DUE.finds("one to -1", x.copy(0, 0, 1, -1, 1), x, BEYOND);
        DUE.finds("one of none", x.copy(2, 0, 1, 0, 1), x, BEYOND);
        DUE.finds("one to none", x.copy(1, 0, 2, 0, 1), x, BEYOND);
        Texts.rowIs(DUE, x, 1, 5, 6, 4);
        Texts.rowIs(DUE, x, 0, 5, 6, 7, 4);
        x.row(3, 40);
        x.row(4, 40);
        x.lay(3, 39, 9);
        DUE.is("forty", x.copy(3, 0, 4, 0, 40), 1);
        DUE.tells("at(4, 39)", x.at(4, 39), x, 9);
        DUE.finds("forty-one", x.copy(3, 0, 4, 0, 41), x, BEYOND);
    }

    /** A place behind a full ROW's end is the next ROW's first one, if it is not looked at. */
    private static void copyBehindTheEnd() {
        DUE.sentence("BEYOND: not so many there");
        IronedQuarrels x = new IronedQuarrels();
        x.row(0, 40);
        x.row(1, 40);
        x.lay(1, 0, 6);
        DUE.finds("from behind the end", x.copy(0, 40, 0, 0, 1), x, BEYOND);
        DUE.finds("to behind the end", x.copy(0, 0, 0, 40, 1), x, BEYOND);
        DUE.finds("from ahead of the first", x.copy(1, -1, 1, 0, 1), x, BEYOND);
        DUE.finds("to ahead of the first", x.copy(1, 0, 1, -1, 1), x, BEYOND);
        DUE.tells("at(1, 0)", x.at(1, 0), x, 6);
        DUE.tells("at(0, 39)", x.at(0, 39), x, 0);
    }

    private static void copyWrapsNotAround() {
        DUE.sentence("BEYOND: not so many there");
        IronedQuarrels x = withRows();
        DUE.finds("n most", x.copy(0, 0, 1, 0, MOST), x, BEYOND);
        DUE.finds("i 1, n most", x.copy(0, 1, 0, 0, MOST), x, BEYOND);
        DUE.finds("j 1, n most", x.copy(0, 0, 0, 1, MOST), x, BEYOND);
        DUE.finds("i most, n 1", x.copy(0, MOST, 0, 0, 1), x, BEYOND);
        DUE.finds("j most, n 1", x.copy(0, 0, 0, MOST, 1), x, BEYOND);
        DUE.finds("i most, n most", x.copy(0, MOST, 0, 0, MOST), x, BEYOND);
        DUE.finds("i least, n 0", x.copy(0, LEAST, 0, 0, 0), x, BEYOND);
        DUE.finds("i least, n most", x.copy(0, LEAST, 0, 0, MOST), x, BEYOND);
        DUE.finds("j least, n most", x.copy(0, 0, 0, LEAST, MOST), x, BEYOND);
    }

    private static void copyAsIfTakenAhead() {
        DUE.sentence("another one (perhaps itself) from one on, as if taken ahead");
        IronedQuarrels x = withRows();
        DUE.is("one up", x.copy(0, 0, 0, 1, 3), 1);
        Texts.rowIs(DUE, x, 0, 1, 1, 2, 3);
        DUE.is("one down", x.copy(0, 1, 0, 0, 3), 1);
        Texts.rowIs(DUE, x, 0, 1, 2, 3, 3);
        DUE.is("to where it is", x.copy(0, 0, 0, 0, 4), 1);
        Texts.rowIs(DUE, x, 0, 1, 2, 3, 3);
    }

    // ---- Promise 7

    private static void meanIs(IronedQuarrels x, int want, int... places) {
        Texts.fill(x, 0, places);
        DUE.tells("mean of " + places.length, x.mean(0), x, want);
    }

    private static void meanIsCut() {
        DUE.sentence("The mean of a ROW's ints, cut");
        IronedQuarrels x = new IronedQuarrels();
        meanIs(x, 5, 5);
        meanIs(x, 0, 0, 1);
        meanIs(x, 0, 0, -1);
        meanIs(x, 1, 1, 2);
        meanIs(x, -1, -1, -2);
        meanIs(x, 3, 3, 4, 4);
        meanIs(x, -3, -3, -4, -4);
        meanIs(x, 4, 4, 4, 4);
    }

    private static void meanAboveAnInt() {
        DUE.sentence("The mean of a ROW's ints");
        IronedQuarrels x = new IronedQuarrels();
        x.row(0, 40);
        for (int i = 0; i < 40; i++) {
            x.lay(0, i, MOST);
        }
        DUE.tells("of forty of the most", x.mean(0), x, MOST);
        x.lay(0, 7, MOST - 1);
        DUE.tells("less one", x.mean(0), x, MOST - 1);
        for (int i = 0; i < 40; i++) {
            x.lay(0, i, LEAST);
        }
        DUE.tells("of forty of the least", x.mean(0), x, LEAST);
        x.lay(0, 39, LEAST + 1);
        DUE.tells("and one", x.mean(0), x, LEAST + 1);
    }

    private static void meanOfNone() {
        DUE.sentence("4 NOUGHT (shared among none)");
        IronedQuarrels x = new IronedQuarrels();
        x.row(0, 1);
        DUE.tells("mean of one", x.mean(0), x, 0);
        x.row(0, 0);
        DUE.finds("mean of none", x.mean(0), x, NOUGHT);
    }

    // ---- Promises 8 and 9

    private static void textIsThere() {
        DUE.sentence("A TEXT is there with n blanks: n.");
        IronedQuarrels x = new IronedQuarrels();
        for (int n : new int[] {80, 1, 0, 80, 79, 80}) {
            DUE.is("text(1, " + n + ")", x.text(1, n), n);
            for (int i = 0; i < n; i++) {
                DUE.is("place " + i + " of " + n, x.put(1, i, 'x'), 1032);
            }
            DUE.finds("put(1, " + n + ", 0)", x.put(1, n, 0), x, BEYOND);
            DUE.is("how many TEXTS", x.count(7), 1);
        }
    }

    private static void textAboveEighty() {
        DUE.sentence("BAD: also n above 80");
        IronedQuarrels x = new IronedQuarrels();
        DUE.is("text(0, 80)", x.text(0, 80), 80);
        DUE.is("text(1, 81)", x.text(1, 81), BAD);
        DUE.is("text(1, most)", x.text(1, MOST), BAD);
        DUE.is("how many TEXTS", x.count(7), 1);
    }

    private static void textBelowNone() {
        DUE.sentence("SIZE: below 0");
        IronedQuarrels x = new IronedQuarrels();
        DUE.is("text(0, 0)", x.text(0, 0), 0);
        DUE.finds("text(1, -1)", x.text(1, -1), x, SIZE);
        DUE.finds("text(1, least)", x.text(1, LEAST), x, SIZE);
        DUE.is("how many TEXTS", x.count(7), 1);
    }

    private static void putIsCut() {
        DUE.sentence("Byte i of a TEXT is v, cut to a byte (-128 .. 127): what it was, and 1000 more.");
        IronedQuarrels x = new IronedQuarrels();
        x.text(0, 1);
        int[] put = {127, 128, -128, -129, 255, 256, -1, 0, 1000, MOST, LEAST};
        int[] byteOf = {127, -128, -128, 127, -1, 0, -1, 0, -24, -1, 0};
        int was = 32;
        for (int k = 0; k < put.length; k++) {
            DUE.is("put(0, 0, " + put[k] + ")", x.put(0, 0, put[k]), 1000 + was);
            was = byteOf[k];
        }
        DUE.is("put(0, 0, 0)", x.put(0, 0, 0), 1000 + was);
    }

    private static void putBeyond() {
        DUE.sentence("2 BEYOND (a place that there is not)");
        IronedQuarrels x = new IronedQuarrels();
        x.text(0, 3);
        DUE.is("put(0, 0, 1)", x.put(0, 0, 1), 1032);
        DUE.finds("put(0, -1, 1)", x.put(0, -1, 1), x, BEYOND);
        DUE.is("put(0, 2, 1)", x.put(0, 2, 1), 1032);
        DUE.finds("put(0, 3, 1)", x.put(0, 3, 1), x, BEYOND);
        x.text(1, 0);
        DUE.finds("put(1, 0, 1)", x.put(1, 0, 1), x, BEYOND);
        DUE.finds("put(1, most, 1)", x.put(1, MOST, 1), x, BEYOND);
        DUE.finds("put(1, least, 1)", x.put(1, LEAST, 1), x, BEYOND);
    }
}
