/** Each sentence of promises 13 to 19 that names a bound: marks, SAYINGS that come, DEEDS, kept HEAPS. */
public final class DeedBoundsTest {
    private static final int BAD = IronedQuarrels.BAD, FULL = IronedQuarrels.FULL;
    private static final int STATE = IronedQuarrels.STATE, NONE = IronedQuarrels.NONE;
    private static final int NOTHING = 1, UNLIKE = 3;
    private static final int MOST = Integer.MAX_VALUE, LEAST = Integer.MIN_VALUE;
    private static final String TWELVE = "s0101-".repeat(12);
    private static final Due DUE = new Due();

    public static void main(String[] args) {
        markOld();
        markStain();
        markPride();
        markSorry();
        markColour();
        markNumbers();
        markUnlike();
        sayKinds();
        sayTold();
        sayWeights();
        sayAnswers();
        sayFull();
        unsayNumbers();
        unsayMayNot();
        unsaySorry();
        unsayPrice();
        undoNumbers();
        undoWhatCame();
        mostDeeds();
        saidNoneAndAll();
        keepPlaces();
        keepNoSayings();
        keepIsApart();
        onNothing();
        DUE.finish("DeedBoundsTest");
    }

    // ---- Promise 13

    private static void markOld() {
        DUE.sentence("an OLD one (COLOUR, too) how many SAYINGS of lesser numbers are BETWEEN its two");
        DUE.is("the first one", Texts.heapOf("o0101-s0101-s1001-").mark(0, 1), 0);
        DUE.is("none BETWEEN", Texts.heapOf("s0201-s1201-o0101-").mark(2, 1), 0);
        DUE.is("either way", Texts.heapOf("s0101-s1001-o0101-s0101-").mark(2, 1), 2);
        DUE.is("all there are", Texts.heapOf("s0101-".repeat(11) + "o1001-").mark(11, 1), 11);
        DUE.is("a COLOUR", Texts.heapOf("s0101-".repeat(11) + "c1001-").mark(11, 1), 11);
        IronedQuarrels x = Texts.heapOf("s0101-o1001-");
        x.unsay(0);
        DUE.is("SAID or not", x.mark(1, 1), 1);
    }

    private static void markStain() {
        DUE.sentence("a STAIN how many PERSONS can have said it (as whose() tells)");
        DUE.is("nobody", Texts.heapOf("s0101-t2101A").mark(1, 2), 0);
        DUE.is("anybody but one", Texts.heapOf("t0101-").mark(0, 2), 5);
        DUE.is("one", Texts.heapOf("s0101-t2301A").mark(1, 2), 1);
    }

    private static void markPride() {
        DUE.sentence("a PRIDE (SORRY, too) its PRICE now, less its HEAT and its WEIGHT, and 100 more");
        String rest = "s0101-".repeat(11);
        DUE.is("the least PRIDE", Texts.heapOf("p0101-").mark(0, 3), 101);
        DUE.is("the greatest PRIDE", Texts.heapOf("p0109-" + rest).mark(0, 3), 109);
        DUE.is("a SORRY alone", Texts.heapOf("y0109-").mark(0, 3), 100);
        DUE.is("a SORRY with one more", Texts.heapOf("y0109-s0101-").mark(0, 3), 99);
        DUE.is("a SORRY with two more", Texts.heapOf("y0109-s0101-s0101-").mark(0, 3), 99);
        DUE.is("a SORRY with all others", Texts.heapOf("y0101-" + rest).mark(0, 3), 94);
        IronedQuarrels x = Texts.heapOf("y0101-" + rest);
        x.unsay(0);
        DUE.is("one that is UNSAID", x.mark(0, 3), 94);
        x.lots(12, 1);
        DUE.is("all UNSAID", x.mark(0, 3), 100);
    }

    private static void markSorry() {
        DUE.sentence("a SORRY how many that are SAID ANSWER it");
        DUE.is("none", Texts.heapOf("y0101-s0101-").mark(0, 4), 0);
        IronedQuarrels x = Texts.heapOf("y0101-" + "s0101A".repeat(11));
        DUE.is("all others", x.mark(0, 4), 11);
        x.unsay(0);
        DUE.is("it is UNSAID", x.mark(0, 4), 11);
        x.unsay(5);
        DUE.is("one of them is UNSAID", x.mark(0, 4), 10);
        DUE.is("what ANSWERS an answer", Texts.heapOf("y0101-s0101As0101B").mark(0, 4), 1);
    }

    private static void markColour() {
        DUE.sentence("a COLOUR how many SAYINGS of its BUNDLE have its TOPIC");
        DUE.is("itself alone", Texts.heapOf("c0131-s0131-").mark(0, 5), 1);
        DUE.is("none else of its TOPIC", Texts.heapOf("c0131-s0121As0141A").mark(0, 5), 1);
        DUE.is("all", Texts.heapOf("c0131-" + "s0131A".repeat(11)).mark(0, 5), 12);
        IronedQuarrels x = Texts.heapOf("s0131-c0131As0131As0131C");
        DUE.is("aside and further on", x.mark(1, 5), 4);
        x.unsay(3);
        x.unsay(1);
        DUE.is("SAID or not", x.mark(1, 5), 4);
    }

    private static void markNumbers() {
        DUE.sentence("BAD: also KIND 0");
        IronedQuarrels x = Texts.heapOf("o0101-c0101-");
        DUE.is("mark(0, 1)", x.mark(0, 1), 0);
        DUE.is("mark(0, 0)", x.mark(0, 0), BAD);
        DUE.is("mark(0, -1)", x.mark(0, -1), BAD);
        DUE.is("mark(1, 5)", x.mark(1, 5), 1);
        DUE.is("mark(1, 6)", x.mark(1, 6), BAD);
        DUE.is("mark(2, 5)", x.mark(2, 5), BAD);
        DUE.is("mark(-1, 5)", x.mark(-1, 5), BAD);
        DUE.is("mark(most, 1)", x.mark(MOST, 1), BAD);
        DUE.is("mark(0, least)", x.mark(0, LEAST), BAD);
        DUE.is("KIND 0 of a plain SAYING", Texts.heapOf("s0101-").mark(0, 0), BAD);
    }

    private static void markUnlike() {
        DUE.sentence("3 UNLIKE (a SAYING of another KIND; ..)");
        IronedQuarrels x = Texts.heapOf("s0101-o0101-t0101-p0101-y0101-c0101-");
        String[] fits = {"", "1", "2", "3", "34", "15"};
        for (int i = 0; i < 6; i++) {
            for (int kind = 1; kind < 6; kind++) {
                String call = "mark(" + i + ", " + kind + ")";
                if (fits[i].indexOf('0' + kind) >= 0) {
                    DUE.holds(call + " is answered", x.mark(i, kind) >= 0);
                } else {
                    DUE.finds(call, x.mark(i, kind), x, UNLIKE);
                }
            }
        }
    }

    // ---- Promise 14

    private static void sayKinds() {
        DUE.sentence("of a KIND (0 .. 5)");
        IronedQuarrels x = new IronedQuarrels();
        DUE.is("KIND 0", x.say(0, 10, 1, NONE), 0);
        DUE.is("KIND -1", x.say(-1, 10, 1, NONE), BAD);
        DUE.is("KIND 5", x.say(5, 10, 1, NONE), 1);
        DUE.is("KIND 6", x.say(6, 10, 1, NONE), BAD);
        DUE.is("KIND most", x.say(MOST, 10, 1, NONE), BAD);
        DUE.is("KIND least", x.say(LEAST, 10, 1, NONE), BAD);
        DUE.tells("the first one's", x.saying(0, 0), x, 0);
        DUE.tells("the other one's", x.saying(1, 0), x, 5);
    }

    /** Each number from -1200 to 1200, and those that are as one of them but for a wrap-around. */
    private static void sayTold() {
        DUE.sentence("told by 100 times WHO, 10 times TO WHOM, and the TOPIC");
        int good = 0;
        IronedQuarrels x = new IronedQuarrels();
        for (int told = -1200; told <= 1200; told++) {
            int who = told / 100;
            int toWhom = told / 10 % 10;
            int topic = told % 10;
            boolean is = told >= 0 && who < 6 && toWhom < 6 && topic < 6 && who != toWhom;
            if (told % 50 == 0) {
                x = new IronedQuarrels();
            }
            DUE.is("say by " + told, x.say(0, told, 1, NONE), is ? 0 : BAD);
            if (is) {
                good++;
                DUE.tells("WHO of " + told, x.saying(0, 1), x, who);
                DUE.tells("TO WHOM of " + told, x.saying(0, 2), x, toWhom);
                DUE.tells("the TOPIC of " + told, x.saying(0, 3), x, topic);
                x.undo(0);
            }
        }
        DUE.is("how many there are", good, 6 * 5 * 6);
        for (int told : new int[] {10010, 100010, 1000000010, MOST, LEAST, LEAST + 10, (1 << 16) + 10}) {
            DUE.is("say by " + told, x.say(0, told, 1, NONE), BAD);
        }
        DUE.is("the least", x.say(0, 10, 1, NONE), 0);
        DUE.is("the greatest", x.say(0, 545, 1, NONE), 1);
    }

    private static void sayWeights() {
        DUE.sentence("with a WEIGHT");
        IronedQuarrels x = new IronedQuarrels();
        DUE.is("WEIGHT 1", x.say(0, 10, 1, NONE), 0);
        DUE.is("WEIGHT 0", x.say(0, 10, 0, NONE), BAD);
        DUE.is("WEIGHT 9", x.say(0, 10, 9, NONE), 1);
        DUE.is("WEIGHT 10", x.say(0, 10, 10, NONE), BAD);
        DUE.is("WEIGHT -1", x.say(0, 10, -1, NONE), BAD);
        DUE.is("WEIGHT most", x.say(0, 10, MOST, NONE), BAD);
        DUE.is("WEIGHT least", x.say(0, 10, LEAST, NONE), BAD);
        DUE.tells("the first one's", x.saying(0, 4), x, 1);
        DUE.tells("the other one's", x.saying(1, 4), x, 9);
    }

    private static void sayAnswers() {
        DUE.sentence("that ANSWERS one (NONE: none)");
        IronedQuarrels x = new IronedQuarrels();
        DUE.is("ANSWERS 0, while there is none", x.say(0, 10, 1, 0), BAD);
        DUE.is("ANSWERS none", x.say(0, 10, 1, NONE), 0);
        DUE.is("ANSWERS itself", x.say(0, 10, 1, 1), BAD);
        DUE.is("ANSWERS the first one", x.say(0, 10, 1, 0), 1);
        DUE.is("ANSWERS the last one", x.say(0, 10, 1, 1), 2);
        for (int none : new int[] {3, -1, -8, -10, 12, 65, 45, MOST, LEAST}) {
            DUE.is("ANSWERS " + none, x.say(0, 10, 1, none), BAD);
        }
        DUE.tells("what the first one ANSWERS", x.saying(0, 5), x, NONE);
        DUE.tells("what the last one ANSWERS", x.saying(2, 5), x, 1);
        DUE.is("how many SAYINGS", x.count(0), 3);
    }

    private static void sayFull() {
        DUE.sentence("FULL: 12 SAYINGS, or 40 DEEDS");
        IronedQuarrels x = Texts.heapOf("s0101-".repeat(11));
        DUE.is("the twelfth", x.say(0, 10, 1, NONE), 11);
        DUE.is("a thirteenth", x.say(0, 10, 1, NONE), FULL);
        DUE.is("how many", x.count(0), 12);
        // one that is UNSAID is a SAYING still; one that went is none
        x.unsay(11);
        DUE.is("with one UNSAID", x.say(0, 10, 1, NONE), FULL);
        x.undo(0);
        DUE.is("with one that went", x.say(0, 10, 1, NONE), 11);
        DUE.is("a thirteenth behind a TEXT's twelve", Texts.heapOf(TWELVE).say(0, 10, 1, NONE), FULL);
    }

    // ---- Promises 15 to 17

    private static void unsayNumbers() {
        DUE.sentence("A SAYING is UNSAID: its PRICE then. BAD");
        DUE.is("of none", new IronedQuarrels().unsay(0), BAD);
        IronedQuarrels x = Texts.heapOf(TWELVE);
        DUE.is("unsay(-1)", x.unsay(-1), BAD);
        DUE.is("unsay(12)", x.unsay(12), BAD);
        DUE.is("unsay(32)", x.unsay(32), BAD);
        DUE.is("unsay(most)", x.unsay(MOST), BAD);
        DUE.is("unsay(least)", x.unsay(LEAST), BAD);
        DUE.is("unsay(0)", x.unsay(0), 12);
        DUE.is("unsay(11)", x.unsay(11), 11);
    }

    private static void unsayMayNot() {
        DUE.sentence("One MAY BE UNSAID, if it is SAID, and none that is SAID ANSWERS it");
        IronedQuarrels x = Texts.heapOf("s0101-s0101As0101As0101B");
        DUE.is("two ANSWER", x.unsay(0), STATE);
        DUE.is("one ANSWERS", x.unsay(1), STATE);
        DUE.is("none ANSWERS", x.unsay(2), 4);
        DUE.is("it is UNSAID", x.unsay(2), STATE);
        DUE.is("one of two still ANSWERS", x.unsay(0), STATE);
        x.unsay(3);
        DUE.is("none that is SAID ANSWERS", x.unsay(1), 2);
        DUE.is("none any more", x.unsay(0), 1);
        DUE.is("how many DEEDS", x.count(2), 4);
    }

    private static void unsaySorry() {
        DUE.sentence("a SORRY, whatever ANSWERS it");
        IronedQuarrels x = Texts.heapOf("y0101-" + "s0101A".repeat(11));
        DUE.is("eleven ANSWER", x.unsay(0), (11 + 2) / 2);
        DUE.is("it is UNSAID", x.unsay(0), STATE);
        DUE.is("a PRIDE is none", Texts.heapOf("p0101-s0101A").unsay(0), STATE);
    }

    private static void unsayPrice() {
        DUE.sentence("its PRICE then");
        IronedQuarrels x = Texts.heapOf("p0109-" + "s1001-".repeat(11));
        DUE.is("the greatest there is", x.unsay(0), 29);
        x.lots(12, 3);
        DUE.is("of none left", x.count(3), 0);
        DUE.is("the least there is", Texts.heapOf("o0109-").unsay(0), 1);
    }

    private static void undoNumbers() {
        DUE.sentence("n 0 to how many there are: then 0");
        IronedQuarrels x = new IronedQuarrels();
        DUE.is("none of none", x.undo(0), 0);
        DUE.is("undo(1) of none", x.undo(1), BAD);
        x = Texts.heapOf("s0101-s0101-s0101-");
        x.unsay(0);
        x.unsay(1);
        DUE.is("undo(3) of 2", x.undo(3), BAD);
        DUE.is("undo(-1)", x.undo(-1), BAD);
        DUE.is("undo(most)", x.undo(MOST), BAD);
        DUE.is("undo(least)", x.undo(LEAST), BAD);
        DUE.is("DEEDS as they were", x.count(2), 2);
        DUE.is("undo(2) of 2", x.undo(2), 0);
        DUE.is("DEEDS as they were", x.count(2), 2);
        DUE.is("undo(1) of 2", x.undo(1), 1);
        DUE.is("undo(0) of 1", x.undo(0), 1);
        DUE.is("undo(1) of 0", x.undo(1), BAD);
    }

    private static void undoWhatCame() {
        DUE.sentence("(SAYINGS that came go)");
        IronedQuarrels x = Texts.heapOf("s0101-");
        x.unsay(0);
        x.say(0, 10, 1, 0);
        x.unsay(1);
        DUE.is("undo(2)", x.undo(2), 1);
        DUE.tells("SAID again", x.said(), 2, x, 2);
        DUE.is("undo(1)", x.undo(1), 1);
        DUE.is("one that came went", x.count(0), 1);
        DUE.is("saying(1, 0)", x.saying(1, 0), BAD);
        DUE.tells("none SAID", x.said(), 0, x, 0);
        DUE.is("its number is the next one's", x.say(4, 230, 2, NONE), 1);
        DUE.is("undo(0)", x.undo(0), 2);
        DUE.tells("as at first", x.said(), 1, x, 1);
    }

    /** 40 can't be come to: 12 SAYINGS come and 12 are UNSAID at most (NOTES.md). */
    private static void mostDeeds() {
        DUE.sentence("DEEDS are SAYINGS that come, those that are UNSAID (40 at most).");
        IronedQuarrels x = new IronedQuarrels();
        for (int i = 0; i < 12; i++) {
            x.say(0, 10, 1, NONE);
        }
        DUE.is("12 came", x.count(2), 12);
        for (int i = 0; i < 12; i++) {
            DUE.is("unsay(" + i + ")", x.unsay(i), 12 - i);
        }
        DUE.is("DEEDS", x.count(2), 24);
        DUE.is("no further one comes", x.say(0, 10, 1, NONE), FULL);
        DUE.is("none is left for LOTS", x.lots(12, 1), 0);
        DUE.is("DEEDS", x.count(2), 24);
        DUE.is("keep(0)", x.keep(0), 24);
        DUE.is("on(0)", x.on(0), 24);
        DUE.is("undo(25)", x.undo(25), BAD);
        DUE.is("undo(24)", x.undo(24), 0);
        DUE.is("undo(0)", x.undo(0), 24);
    }

    private static void saidNoneAndAll() {
        DUE.sentence("SAYINGS that are SAID (bits); those that MAY BE UNSAID by asked().");
        IronedQuarrels x = new IronedQuarrels();
        DUE.tells("of none", x.said(), 0, x, 0);
        x = Texts.heapOf(TWELVE);
        DUE.tells("of twelve", x.said(), 4095, x, 4095);
        x.lots(12, 1);
        DUE.tells("all UNSAID", x.said(), 0, x, 0);
        x = Texts.heapOf("s0101-s0101As0101Bs0101Cs0101Ds0101Es0101Fs0101Gs0101Hs0101Is0101Js0101K");
        DUE.tells("each ANSWERS the one ahead", x.said(), 4095, x, 2048);
    }

    // ---- Promises 18 and 19

    private static void keepPlaces() {
        DUE.sentence("is kept in a place (0 .. 2): how many DEEDS");
        IronedQuarrels x = Texts.heapOf("s0101-");
        DUE.is("keep(-1)", x.keep(-1), BAD);
        DUE.is("keep(3)", x.keep(3), BAD);
        DUE.is("keep(most)", x.keep(MOST), BAD);
        DUE.is("keep(least)", x.keep(LEAST), BAD);
        DUE.is("none kept", x.count(8), 0);
        DUE.is("keep(0)", x.keep(0), 0);
        x.unsay(0);
        DUE.is("keep(2)", x.keep(2), 1);
        DUE.is("two kept", x.count(8), 2);
        DUE.is("keep(1)", x.keep(1), 1);
        DUE.is("three kept", x.count(8), 3);
        DUE.is("on(-1)", x.on(-1), BAD);
        DUE.is("on(3)", x.on(3), BAD);
        DUE.is("on(most)", x.on(MOST), BAD);
        DUE.is("on(least)", x.on(LEAST), BAD);
        DUE.is("on(0)", x.on(0), 0);
        DUE.is("on(2)", x.on(2), 1);
    }

    private static void keepNoSayings() {
        DUE.sentence("STATE: no SAYINGS");
        IronedQuarrels x = new IronedQuarrels();
        DUE.is("no HEAP yet", x.keep(0), STATE);
        x.say(0, 10, 1, NONE);
        DUE.is("one SAYING", x.keep(0), 1);
        x.unsay(0);
        DUE.is("one, UNSAID", x.keep(0), 2);
        x.undo(0);
        DUE.is("it went", x.keep(0), STATE);
        DUE.is("kept still", x.on(0), 2);
        x.text(0, 3);
        x.heap(0);
        DUE.is("a HEAP of nothing", x.keep(1), STATE);
        DUE.is("none kept", x.count(8), 0);
    }

    private static void keepIsApart() {
        DUE.sentence("The HEAP is as it was kept: how many DEEDS.");
        IronedQuarrels x = Texts.heapOf("s0101-y1023A");
        x.say(5, 345, 6, 1);
        x.unsay(1);
        x.keep(0);
        long kept = x.digest();
        x.unsay(2);
        x.unsay(0);
        x.say(3, 20, 9, 2);
        x.undo(1);
        x.say(2, 450, 9, NONE);
        DUE.is("on(0)", x.on(0), 2);
        DUE.is("as it was", x.digest(), kept);
        x.undo(0);
        x.say(1, 540, 2, NONE);
        DUE.is("on(0) again", x.on(0), 2);
        DUE.is("as it was", x.digest(), kept);
        DUE.is("its DEEDS, too", x.undo(0), 2);
        DUE.tells("SAID", x.said(), 3, x, 2);
    }

    private static void onNothing() {
        DUE.sentence("1 NOTHING (a ROW, a TEXT, a kept HEAP that is missing)");
        IronedQuarrels x = Texts.heapOf("s0101-");
        x.keep(1);
        DUE.finds("on(0)", x.on(0), x, NOTHING);
        DUE.is("on(1)", x.on(1), 0);
        DUE.finds("on(2)", x.on(2), x, NOTHING);
        DUE.finds("at of a missing ROW", x.at(0, 0), x, NOTHING);
        DUE.finds("put of a missing TEXT", x.put(1, 0, 0), x, NOTHING);
    }
}
