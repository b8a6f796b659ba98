import java.util.ArrayList;
import java.util.List;

/**
 * What is refused: of two reasons at once the document's first one is answered, and nothing but
 * finding() and findings() is changed by it, whatever the object's state.
 */
public final class RefusalsTest {
    private static final int BAD = IronedQuarrels.BAD, FULL = IronedQuarrels.FULL, STATE = IronedQuarrels.STATE;
    private static final int FINDING = IronedQuarrels.FINDING, NONE = IronedQuarrels.NONE;
    private static final int NOTHING = 1, BEYOND = 2, UNLIKE = 3, NOUGHT = 4, SIZE = 5;
    private static final int MOST = Integer.MAX_VALUE, LEAST = Integer.MIN_VALUE;
    /** States of an object: just made; with some of everything; with twelve SAYINGS; with none of them SAID. */
    private static final int NEW = 0, SOME = 1, TWELVE = 2, UNSAID = 3, STATES = 4;
    private static final Due DUE = new Due();

    public static void main(String[] args) {
        rowsInOrder();
        copyInOrder();
        textsInOrder();
        marksInOrder();
        sayInOrder();
        deedsInOrder();
        ordersInOrder();
        personsInOrder();
        sweep();
        neverRefused();
        unlessRefused();
        DUE.finish("RefusalsTest");
    }

    // ---- states

    private static IronedQuarrels made(int state) {
        IronedQuarrels x = new IronedQuarrels();
        if (state == NEW) {
            return x;
        }
        Texts.fill(x, 0, 0, 1, 99);
        x.row(1, 0);
        Texts.fill(x, 3, 0, 0, 7);
        x.row(5, 40);
        Texts.write(x, 0, state == SOME ? "s0102-o1003At2104-p0105Cy3201Dc0131E" : "s0101-y1029A".repeat(6));
        Texts.write(x, 1, "s0101-s0101Bx");
        x.text(3, 0);
        x.heap(0);
        x.keep(0);
        if (state == SOME) {
            x.unsay(5);
            x.say(2, 450, 3, 4);
            x.keep(2);
            x.unsay(4);
        }
        if (state == UNSAID) {
            x.lots(12, 5);
        }
        x.tear(2);
        x.mean(1);
        x.at(5, 40);
        x.bill(0);
        x.last(1);
        x.lay(5, 1, 77);
        x.at(5, 1);
        return x;
    }

    // ---- how a refusal is looked at

    private static int[] findingsOf(IronedQuarrels x) {
        return new int[] {x.finding(), x.findings(1), x.findings(2), x.findings(3), x.findings(4), x.findings(5)};
    }

    /** A call is refused so, with that FINDING (0: with none), and changes nothing else. */
    private static void refused(int state, int want, int finding, String name, int... arguments) {
        IronedQuarrels x = made(state);
        int[] due = findingsOf(x);
        String told = Calls.told(name, arguments) + " in state " + state;
        DUE.is(told, Calls.call(x, name, arguments), want);
        if (finding != 0) {
            due[0] = finding;
            due[finding]++;
        }
        leavesAll(told, x, state, due);
    }

    private static void leavesAll(String told, IronedQuarrels x, int state, int[] findings) {
        int[] got = findingsOf(x);
        DUE.is("finding() behind " + told, got[0], findings[0]);
        for (int f = 1; f <= 5; f++) {
            DUE.is("findings(" + f + ") behind " + told, got[f], findings[f]);
        }
        DUE.holds(told + " changes nothing", Calls.allOf(x).equals(Calls.allOf(made(state))));
    }

    private static void bad(String name, int... arguments) {
        for (int state = 0; state < STATES; state++) {
            refused(state, BAD, 0, name, arguments);
        }
    }

    // ---- two reasons at once

    private static void rowsInOrder() {
        DUE.sentence("BAD ahead of FINDING");
        for (String name : new String[] {"row", "text"}) {
            int none = name.equals("row") ? 6 : 4;
            bad(name, none, -1);
            bad(name, -1, -1);
            bad(name, none, LEAST);
            bad(name, none, 81);
            bad(name, LEAST, LEAST);
        }
        bad("lay", 6, -1, 0);
        bad("lay", -1, 40, 0);
        bad("at", 6, -1);
        bad("at", -1, 40);
        bad("tear", 6);
        bad("tear", -1);
        bad("mean", 6);
        bad("mean", -1);
        bad("put", 4, -1, 0);
        bad("put", -1, 80, 0);
        DUE.sentence("BAD; NOTHING; BEYOND.");
        refused(NEW, FINDING, NOTHING, "lay", 0, 0, 1);
        refused(SOME, FINDING, NOTHING, "lay", 2, -1, 1);
        refused(SOME, FINDING, NOTHING, "lay", 2, 40, 1);
        refused(SOME, FINDING, BEYOND, "lay", 1, 0, 1);
        refused(SOME, FINDING, NOTHING, "at", 2, -1);
        refused(SOME, FINDING, NOTHING, "at", 2, 40);
        refused(SOME, FINDING, BEYOND, "at", 1, 0);
        refused(SOME, FINDING, NOTHING, "put", 2, -1, 1);
        refused(SOME, FINDING, NOTHING, "put", 2, 80, 1);
        refused(SOME, FINDING, BEYOND, "put", 3, 0, 1);
        DUE.sentence("BAD; NOTHING; NOUGHT.");
        refused(SOME, FINDING, NOTHING, "mean", 2);
        refused(SOME, FINDING, NOUGHT, "mean", 1);
        refused(SOME, FINDING, NOTHING, "tear", 2);
        DUE.sentence("SIZE: below 0");
        refused(SOME, FINDING, SIZE, "row", 0, -1);
        refused(SOME, FINDING, SIZE, "row", 2, LEAST);
        refused(SOME, FINDING, SIZE, "text", 0, -1);
        refused(SOME, FINDING, SIZE, "text", 2, LEAST);
        refused(SOME, BAD, 0, "row", 0, 41);
        refused(SOME, BAD, 0, "text", 0, 81);
    }

    private static void copyInOrder() {
        DUE.sentence("BAD; SIZE: n below 0; NOTHING: either; BEYOND: not so many there .. (In this order.)");
        // BAD with SIZE, with NOTHING, with BEYOND
        bad("copy", 6, 0, 0, 0, -1);
        bad("copy", 0, 0, 6, 0, -1);
        bad("copy", -1, 0, 2, 0, 1);
        bad("copy", 2, 0, -1, 0, 1);
        bad("copy", 6, 99, 0, 99, 1);
        bad("copy", 0, 99, 6, 99, 1);
        bad("copy", 6, -1, 6, -1, -1);
        // SIZE with NOTHING, with BEYOND
        refused(SOME, FINDING, SIZE, "copy", 2, 0, 0, 0, -1);
        refused(SOME, FINDING, SIZE, "copy", 0, 0, 2, 0, -1);
        refused(SOME, FINDING, SIZE, "copy", 0, 99, 1, 0, -1);
        refused(SOME, FINDING, SIZE, "copy", 0, 0, 1, -1, LEAST);
        refused(SOME, FINDING, SIZE, "copy", 2, 99, 4, -1, -1);
        // NOTHING with BEYOND
        refused(SOME, FINDING, NOTHING, "copy", 2, 0, 0, 99, 1);
        refused(SOME, FINDING, NOTHING, "copy", 0, 99, 2, 0, 1);
        refused(SOME, FINDING, NOTHING, "copy", 2, -1, 2, -1, 0);
        refused(SOME, FINDING, NOTHING, "copy", 0, -1, 2, 0, 0);
        refused(SOME, FINDING, NOTHING, "copy", 2, 0, 0, -1, 0);
        // BEYOND, either
        refused(SOME, FINDING, BEYOND, "copy", 0, 0, 1, 0, 1);
        refused(SOME, FINDING, BEYOND, "copy", 1, 0, 0, 0, 1);
        refused(SOME, FINDING, BEYOND, "copy", 5, 0, 5, 1, 40);
        refused(SOME, FINDING, BEYOND, "copy", 5, 40, 0, 3, 1);
    }

    private static void textsInOrder() {
        DUE.sentence("BAD; NOTHING; STATE: a FAULT. (STATE behind NOTHING.)");
        bad("fault", 4);
        bad("fault", -1);
        bad("heap", 4);
        bad("heap", -1);
        refused(SOME, FINDING, NOTHING, "fault", 2);
        refused(SOME, FINDING, NOTHING, "heap", 2);
        refused(TWELVE, STATE, 0, "heap", 1);
        refused(SOME, STATE, 0, "heap", 1);
        refused(UNSAID, STATE, 0, "heap", 1);
        for (int t = 0; t < 4; t++) {
            refused(NEW, FINDING, NOTHING, "heap", t);
        }
    }

    private static void marksInOrder() {
        DUE.sentence("BAD: also KIND 0; UNLIKE.");
        for (int state = 0; state < STATES; state++) {
            refused(state, BAD, 0, "mark", -1, 1);
            refused(state, BAD, 0, "mark", 12, 1);
            refused(state, BAD, 0, "mark", 0, 0);
            refused(state, BAD, 0, "mark", 0, 6);
            refused(state, BAD, 0, "mark", 0, LEAST);
            refused(state, BAD, 0, "mark", 12, 6);
            refused(state, BAD, 0, "saying", -1, 8);
            refused(state, BAD, 0, "saying", 12, 0);
            refused(state, BAD, 0, "saying", 0, 8);
            refused(state, BAD, 0, "saying", 0, -1);
        }
        refused(SOME, FINDING, UNLIKE, "mark", 0, 1);
        refused(SOME, FINDING, UNLIKE, "mark", 5, 2);
        refused(SOME, FINDING, UNLIKE, "mark", 3, 4);
        refused(SOME, BAD, 0, "mark", 7, 1);
        refused(NEW, BAD, 0, "mark", 0, 1);
        DUE.sentence("BAD; UNLIKE: no STAIN.");
        refused(SOME, BAD, 0, "whose", 7);
        refused(SOME, BAD, 0, "whose", -1);
        refused(SOME, FINDING, UNLIKE, "whose", 0);
        refused(NEW, BAD, 0, "whose", 0);
    }

    private static void sayInOrder() {
        DUE.sentence("BAD; FULL: 12 SAYINGS, or 40 DEEDS.");
        refused(TWELVE, FULL, 0, "say", 0, 10, 1, NONE);
        refused(TWELVE, FULL, 0, "say", 5, 545, 9, 11);
        refused(UNSAID, FULL, 0, "say", 0, 10, 1, 0);
        for (int state = 0; state < STATES; state++) {
            refused(state, BAD, 0, "say", -1, 10, 1, NONE);
            refused(state, BAD, 0, "say", 6, 10, 1, NONE);
            refused(state, BAD, 0, "say", 0, -10, 1, NONE);
            refused(state, BAD, 0, "say", 0, 550, 1, NONE);
            refused(state, BAD, 0, "say", 0, 16, 1, NONE);
            refused(state, BAD, 0, "say", 0, 60, 1, NONE);
            refused(state, BAD, 0, "say", 0, 600, 1, NONE);
            refused(state, BAD, 0, "say", 0, 0, 1, NONE);
            refused(state, BAD, 0, "say", 0, 10, 0, NONE);
            refused(state, BAD, 0, "say", 0, 10, 10, NONE);
            refused(state, BAD, 0, "say", 0, 10, 1, 12);
            refused(state, BAD, 0, "say", 0, 10, 1, -1);
            refused(state, BAD, 0, "say", 6, 0, 10, 12);
        }
    }

    private static void deedsInOrder() {
        DUE.sentence("BAD; STATE: it may not be; FULL: 40 DEEDS. (FULL last.)");
        bad("unsay", -1);
        bad("unsay", 12);
        refused(NEW, BAD, 0, "unsay", 0);
        refused(SOME, BAD, 0, "unsay", 7);
        refused(SOME, STATE, 0, "unsay", 0);
        refused(SOME, STATE, 0, "unsay", 4);
        refused(SOME, STATE, 0, "unsay", 5);
        refused(UNSAID, STATE, 0, "unsay", 0);
        bad("undo", -1);
        bad("undo", 25);
        refused(NEW, BAD, 0, "undo", 1);
        refused(SOME, BAD, 0, "undo", 4);
        refused(UNSAID, BAD, 0, "undo", 13);
        DUE.sentence("BAD; STATE: no SAYINGS.");
        bad("keep", 3);
        bad("keep", -1);
        refused(NEW, STATE, 0, "keep", 0);
        refused(NEW, STATE, 0, "keep", 2);
        DUE.sentence("BAD; NOTHING.");
        bad("on", 3);
        bad("on", -1);
        refused(NEW, FINDING, NOTHING, "on", 0);
        refused(SOME, FINDING, NOTHING, "on", 1);
    }

    private static void ordersInOrder() {
        DUE.sentence("BAD");
        for (String name : new String[] {"leans", "feeds", "first", "last"}) {
            bad(name, -1);
            bad(name, 12);
            refused(NEW, BAD, 0, name, 0);
            refused(SOME, BAD, 0, name, 7);
        }
        bad("longest", 6);
        bad("longest", -1);
        bad("cheapest", 6);
        bad("cheapest", -1);
        DUE.sentence("BAD; NOTHING; UNLIKE: a number that is no SAYING.");
        bad("judge", 6);
        bad("judge", -1);
        refused(NEW, FINDING, NOTHING, "judge", 0);
        refused(SOME, FINDING, NOTHING, "judge", 2);
        refused(SOME, FINDING, UNLIKE, "judge", 0);
        // 0, 0, 7: it is no ORDER ahead of the number that is no SAYING
        refused(SOME, FINDING, UNLIKE, "judge", 3);
        DUE.sentence("BAD; STATE: it is not SAID.");
        refused(SOME, STATE, 0, "last", 5);
        refused(SOME, STATE, 0, "last", 4);
        refused(UNSAID, STATE, 0, "last", 11);
        refused(UNSAID, BAD, 0, "last", 12);
    }

    private static void personsInOrder() {
        DUE.sentence("BAD: also the same.");
        bad("end", 0, 0);
        bad("end", 5, 5);
        bad("end", 6, 6);
        bad("end", -1, 0);
        bad("end", 0, 6);
        DUE.sentence("BAD; NOUGHT: nothing is SAID.");
        bad("bill", 6);
        bad("bill", -1);
        refused(NEW, FINDING, NOUGHT, "bill", 0);
        refused(UNSAID, FINDING, NOUGHT, "bill", 5);
        DUE.sentence("BAD.");
        for (int[] wrong : new int[][] {{0, -1}, {0, 21}, {12, 0}, {-1, 0}, {12, 21}}) {
            bad("colour", wrong);
        }
        for (int[] wrong : new int[][] {{0, 1}, {13, 1}, {1, 0}, {1, MOST}, {1, -1}, {0, 0}}) {
            bad("lots", wrong);
        }
        bad("count", -1);
        bad("count", 9);
        bad("findings", 0);
        bad("findings", 6);
    }

    // ---- whatever is refused

    private static final int[] FEW = {LEAST, -1, 0, 2, 41, MOST};
    private static final int[] MANY = {LEAST, -10, -9, -1, 0, 1, 2, 3, 5, 6, 7, 9, 10, 12, 41, 81, 100, MOST};

    /** Each call by all of some numbers: it answers as it may, and where it is refused nothing is changed. */
    private static void sweep() {
        DUE.sentence("What is refused changes nothing but finding(), findings().");
        for (int state = 0; state < STATES; state++) {
            List<String> ahead = Calls.allOf(made(state));
            for (String name : Calls.names()) {
                int arguments = Calls.howManyArguments(name);
                if (arguments > 0) {
                    sweepFrom(state, ahead, name, new int[arguments], 0);
                }
            }
        }
    }

    private static void sweepFrom(int state, List<String> ahead, String name, int[] arguments, int k) {
        if (k < arguments.length) {
            for (int v : arguments.length < 3 ? MANY : FEW) {
                arguments[k] = v;
                sweepFrom(state, ahead, name, arguments, k + 1);
            }
            return;
        }
        IronedQuarrels x = made(state);
        int[] due = findingsOf(x);
        long answer = Calls.call(x, name, arguments);
        String told = Calls.told(name, arguments) + " in state " + state;
        DUE.holds(told + " answers as it may, not " + answer, answer >= 0 || answer == BAD || answer == FULL
                || answer == STATE || answer == FINDING || answer == NONE);
        if (answer >= 0 || answer == NONE) {
            return;
        }
        if (answer == FINDING) {
            int finding = x.finding();
            DUE.holds(told + " finds what there is", finding >= 1 && finding <= 5);
            due[0] = finding;
            due[finding]++;
        }
        int[] got = findingsOf(x);
        DUE.holds("FINDINGS behind " + told, java.util.Arrays.equals(got, due));
        DUE.holds(told + " changes nothing", Calls.allOf(x).equals(ahead));
    }

    private static void neverRefused() {
        DUE.sentence("calls that name no refusal");
        for (int state = 0; state < STATES; state++) {
            IronedQuarrels x = made(state);
            int[] due = findingsOf(x);
            for (String name : new String[] {"said", "bundles", "orders", "rings", "away", "wash"}) {
                DUE.holds(name + "() in state " + state, Calls.call(x, name) >= 0);
            }
            x.asked();
            x.upper();
            x.lower();
            x.finding();
            x.digest();
            DUE.holds("FINDINGS in state " + state, java.util.Arrays.equals(findingsOf(x), due));
        }
    }

    /** So that the looking itself is looked at: what is not refused is seen to change something. */
    private static void unlessRefused() {
        DUE.sentence("what is not refused is seen");
        List<String> unseen = new ArrayList<>();
        String[] names = {"row", "lay", "tear", "copy", "text", "put", "heap", "say", "unsay", "undo", "keep", "on",
            "mean", "at", "saying", "said", "first", "bundles", "longest", "cheapest", "orders", "judge", "last",
            "end", "rings", "away", "bill", "lots"};
        int[][] arguments = {{0, 3}, {0, 0, 5}, {0}, {0, 1, 0, 2, 1}, {0, 40}, {0, 0, 120}, {0}, {0, 10, 1, 3}, {6},
            {2}, {1}, {0}, {0}, {0, 1}, {0, 7}, {}, {6}, {}, {4}, {4}, {}, {3}, {6}, {0, 1}, {}, {}, {2}, {1, 1}};
        for (int k = 0; k < names.length; k++) {
            IronedQuarrels x = made(SOME);
            if (names[k].equals("judge")) {
                x.lay(3, 2, 0);
                x.at(5, 1);
            }
            Calls.call(x, names[k], arguments[k]);
            if (Calls.allOf(x).equals(Calls.allOf(made(SOME)))) {
                unseen.add(Calls.told(names[k], arguments[k]));
            }
        }
        DUE.holds("each is seen, not so " + unseen, unseen.isEmpty());
    }
}
