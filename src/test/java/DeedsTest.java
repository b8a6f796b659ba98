/** Promises 14 to 19: say, unsay, undo, said, keep, on. */
public final class DeedsTest {
    private static final int BAD = IronedQuarrels.BAD, FULL = IronedQuarrels.FULL;
    private static final int FINDING = IronedQuarrels.FINDING, STATE = IronedQuarrels.STATE;
    private static final int NONE = IronedQuarrels.NONE;
    private static final Due DUE = new Due();

    public static void main(String[] args) {
        say();
        sayRefused();
        sayFull();
        mostDeeds();
        unsay();
        unsayRefused();
        sorryGoesAnyhow();
        undo();
        undoRefused();
        said();
        keepAndOn();
        keepRefused();
        DUE.finish("DeedsTest");
    }

    private static void factIs(IronedQuarrels x, int i, int what, int want) {
        DUE.is("saying(" + i + ", " + what + ")", x.saying(i, what), 1);
        DUE.is("what it told", x.asked(), want);
    }

    private static void say() {
        IronedQuarrels x = new IronedQuarrels();
        DUE.is("without a HEAP", x.say(0, 10, 1, NONE), 0);
        DUE.is("the greatest numbers", x.say(5, 545, 9, 0), 1);
        DUE.is("the least numbers", x.say(1, 10, 1, 1), 2);
        int[] facts = {5, 5, 4, 5, 9, 0, 1, 6};
        for (int what = 0; what < 8; what++) {
            factIs(x, 1, what, facts[what]);
        }
        factIs(x, 2, 1, 0);
        factIs(x, 2, 2, 1);
        factIs(x, 0, 5, NONE);
        DUE.is("three DEEDS", x.count(2), 3);
        DUE.is("all SAID", x.said(), 7);
        x.unsay(2);
        DUE.is("one ANSWERS what is UNSAID", x.say(0, 23, 1, 2), 3);
        factIs(x, 3, 5, 2);
    }

    private static void sayRefused() {
        IronedQuarrels x = Texts.heapOf("s0101-");
        int[] wrongTold = {-1, -10, -100, 0, 5, 110, 225, 550, 60, 16, 17, 600, 610, 1010, 10010, 19, 99,
                Integer.MAX_VALUE, Integer.MIN_VALUE};
        for (int told : wrongTold) {
            DUE.is("told by " + told, x.say(0, told, 1, NONE), BAD);
        }
        for (int kind : new int[] {-1, 6, Integer.MAX_VALUE, Integer.MIN_VALUE}) {
            DUE.is("KIND " + kind, x.say(kind, 10, 1, NONE), BAD);
        }
        for (int weight : new int[] {-1, 0, 10, Integer.MAX_VALUE, Integer.MIN_VALUE}) {
            DUE.is("WEIGHT " + weight, x.say(0, 10, weight, NONE), BAD);
        }
        for (int answers : new int[] {1, -1, -8, -10, 12, Integer.MAX_VALUE, Integer.MIN_VALUE}) {
            DUE.is("ANSWERS " + answers, x.say(0, 10, 1, answers), BAD);
        }
        DUE.is("nothing came", x.count(0), 1);
        DUE.is("no DEED", x.count(2), 0);
        DUE.is("no finding", x.finding(), 0);
    }

    private static void sayFull() {
        IronedQuarrels x = Texts.heapOf("s0101-".repeat(11));
        DUE.is("the twelfth", x.say(0, 10, 1, 10), 11);
        DUE.is("a thirteenth", x.say(0, 10, 1, 11), FULL);
        DUE.is("BAD ahead of FULL", x.say(0, 10, 1, 12), BAD);
        DUE.is("no DEED of what is refused", x.count(2), 1);
    }

    /** 12 SAYINGS come and 12 are UNSAID at most, so the 40 DEEDS of the document are never full. */
    private static void mostDeeds() {
        IronedQuarrels x = new IronedQuarrels();
        for (int i = 0; i < 12; i++) {
            DUE.is("say " + i, x.say(0, 10, 1, NONE), i);
        }
        for (int i = 0; i < 12; i++) {
            DUE.is("unsay " + i, x.unsay(i), 12 - i);
        }
        DUE.is("24 DEEDS", x.count(2), 24);
        DUE.is("none may be UNSAID", x.unsay(0), STATE);
        DUE.is("12 SAYINGS, none SAID", x.say(0, 10, 1, NONE), FULL);
        DUE.is("undo(12)", x.undo(12), 12);
        DUE.is("all SAID", x.said(), 4095);
        DUE.is("undo(0)", x.undo(0), 12);
        DUE.is("none left", x.count(0), 0);
    }

    private static void unsay() {
        IronedQuarrels x = Texts.heapOf("s0107-s1005As0205-");
        DUE.is("unsay(2)", x.unsay(2), 5);
        DUE.is("unsay(1)", x.unsay(1), 6);
        DUE.is("unsay(0)", x.unsay(0), 7);
        DUE.is("three DEEDS", x.count(2), 3);
        DUE.is("none SAID", x.said(), 0);
    }

    private static void unsayRefused() {
        IronedQuarrels x = Texts.heapOf("s0101-s1001A");
        DUE.is("unsay(-1)", x.unsay(-1), BAD);
        DUE.is("unsay(2)", x.unsay(2), BAD);
        DUE.is("unsay(most)", x.unsay(Integer.MAX_VALUE), BAD);
        DUE.is("one that is answered", x.unsay(0), STATE);
        DUE.is("all SAID still", x.said(), 3);
        DUE.is("no DEEDS", x.count(2), 0);
        x.unsay(1);
        DUE.is("one that is UNSAID", x.unsay(1), STATE);
        DUE.is("one DEED", x.count(2), 1);
        DUE.is("once it isn't answered", x.unsay(0), 1);
    }

    private static void sorryGoesAnyhow() {
        IronedQuarrels x = Texts.heapOf("y0103-s1001As0101B");
        DUE.is("a SORRY, answered", x.unsay(0), (2 + 6) / 2);
        DUE.is("a SORRY that is UNSAID", x.unsay(0), STATE);
        DUE.is("another one, answered", x.unsay(1), STATE);
        DUE.is("SAID", x.said(), 6);
        DUE.is("may be UNSAID", x.asked(), 4);
    }

    private static void undo() {
        IronedQuarrels x = Texts.heapOf("s0101-s1001A");
        x.unsay(1);
        x.say(0, 10, 2, 1);
        x.unsay(0);
        x.unsay(2);
        x.say(3, 20, 3, NONE);
        DUE.is("undo(5), all that are there", x.undo(5), 0);
        DUE.is("undo(4)", x.undo(4), 1);
        DUE.is("what came went", x.count(0), 3);
        DUE.is("none SAID", x.said(), 0);
        DUE.is("undo(3)", x.undo(3), 1);
        DUE.is("SAID again", x.said(), 4);
        DUE.is("undo(0)", x.undo(0), 3);
        DUE.is("as at first", x.said(), 3);
        DUE.is("two SAYINGS", x.count(0), 2);
        DUE.is("no DEEDS", x.count(2), 0);
        DUE.is("undo(0) of none", x.undo(0), 0);
    }

    private static void undoRefused() {
        IronedQuarrels x = Texts.heapOf("s0101-");
        x.unsay(0);
        DUE.is("undo(-1)", x.undo(-1), BAD);
        DUE.is("undo(2)", x.undo(2), BAD);
        DUE.is("undo(least)", x.undo(Integer.MIN_VALUE), BAD);
        DUE.is("one DEED still", x.count(2), 1);
        DUE.is("UNSAID still", x.said(), 0);
    }

    private static void said() {
        IronedQuarrels x = new IronedQuarrels();
        DUE.is("said() of none", x.said(), 0);
        DUE.is("may be UNSAID", x.asked(), 0);
        x = Texts.heapOf("s0101-y1001As0101By0201-s2001-");
        DUE.is("said()", x.said(), 31);
        DUE.is("may be UNSAID", x.asked(), 2 + 4 + 8 + 16);
        x.unsay(1);
        DUE.is("said()", x.said(), 29);
        DUE.is("may be UNSAID", x.asked(), 1 + 4 + 8 + 16);
        x.say(0, 10, 1, 4);
        DUE.is("said()", x.said(), 61);
        DUE.is("may be UNSAID", x.asked(), 1 + 4 + 8 + 32);
    }

    private static void keepAndOn() {
        IronedQuarrels x = Texts.heapOf("s0101-s1002A");
        DUE.is("keep(0)", x.keep(0), 0);
        x.unsay(1);
        x.say(4, 235, 6, 0);
        DUE.is("keep(2)", x.keep(2), 2);
        DUE.is("two kept", x.count(8), 2);
        x.unsay(2);
        DUE.is("on(0)", x.on(0), 0);
        DUE.is("all SAID", x.said(), 3);
        DUE.is("two SAYINGS", x.count(0), 2);
        x.say(0, 100, 1, NONE);
        DUE.is("on(2)", x.on(2), 2);
        DUE.is("as it was", x.said(), 5);
        int[] facts = {4, 2, 3, 5, 6, 0, 1, 6};
        for (int what = 0; what < 8; what++) {
            factIs(x, 2, what, facts[what]);
        }
        DUE.is("its DEEDS, too", x.undo(0), 2);
        DUE.is("all SAID", x.said(), 3);
        DUE.is("kept still", x.on(2), 2);
        DUE.is("keep(0) over it", x.keep(0), 2);
        x.undo(0);
        DUE.is("on(0) is the newer one", x.on(0), 2);
        DUE.is("as it was", x.said(), 5);
    }

    private static void keepRefused() {
        IronedQuarrels x = new IronedQuarrels();
        DUE.is("keep(-1)", x.keep(-1), BAD);
        DUE.is("keep(3)", x.keep(3), BAD);
        DUE.is("keep without SAYINGS", x.keep(0), STATE);
        DUE.is("none kept", x.count(8), 0);
        DUE.is("on(-1)", x.on(-1), BAD);
        DUE.is("on(3)", x.on(3), BAD);
        DUE.is("on(1)", x.on(1), FINDING);
        DUE.is("NOTHING", x.finding(), 1);
        x.say(0, 10, 1, NONE);
        DUE.is("one came", x.keep(1), 1);
        x.unsay(0);
        DUE.is("none SAID, but a SAYING", x.keep(0), 2);
        x.undo(0);
        DUE.is("it went again", x.keep(2), STATE);
        DUE.is("on(1)", x.on(1), 1);
        DUE.is("SAID", x.said(), 1);
    }
}
