/** Promises 29 to 34: end, rings, away, whose, wash, bill. */
public final class PersonsTest {
    private static final int BAD = IronedQuarrels.BAD, FINDING = IronedQuarrels.FINDING;
    private static final int[] NO_PERSONS = {-1, 6, 31, 32, Integer.MAX_VALUE, Integer.MIN_VALUE};
    private static final Due DUE = new Due();

    public static void main(String[] args) {
        end();
        endBehindSorry();
        endRefused();
        rings();
        away();
        whose();
        whoseRefused();
        wash();
        bill();
        billRefused();
        DUE.finish("PersonsTest");
    }

    private static void endIs(IronedQuarrels x, int p, int q, int bits) {
        DUE.is("end(" + p + ", " + q + ")", x.end(p, q), bits);
        DUE.is("how many", x.asked(), Integer.bitCount(bits));
        DUE.is("end(" + q + ", " + p + ")", x.end(q, p), bits);
        DUE.is("how many", x.asked(), Integer.bitCount(bits));
    }

    private static void end() {
        IronedQuarrels x = Texts.heapOf("y0101-s1001As2301Bs4501As0101D");
        endIs(x, 0, 1, 1 + 2 + 4 + 16);
        endIs(x, 2, 3, 4);
        endIs(x, 4, 5, 8 + 16);
        endIs(x, 0, 2, 0);
        x.unsay(2);
        endIs(x, 0, 1, 1 + 2 + 16);
        endIs(x, 2, 3, 0);
        x.unsay(4);
        x.unsay(1);
        endIs(x, 0, 1, 1);
        DUE.is("nothing was UNSAID by end", x.said(), 1 + 8);
        endIs(new IronedQuarrels(), 0, 1, 0);
        endIs(Texts.heapOf("s0101-p2301At4501Bo3201Cc5401D"), 0, 1, 31);
    }

    private static void endBehindSorry() {
        IronedQuarrels x = Texts.heapOf("s0101-y2301As4501B");
        endIs(x, 0, 1, 1 + 2);
        endIs(x, 2, 3, 2);
        x.unsay(1);
        endIs(x, 0, 1, 1);
        endIs(x, 2, 3, 0);
        endIs(x, 4, 5, 4);
    }

    private static void endRefused() {
        IronedQuarrels x = Texts.heapOf("s0101-");
        x.end(0, 1);
        for (int wrong : NO_PERSONS) {
            DUE.is("end(" + wrong + ", 0)", x.end(wrong, 0), BAD);
            DUE.is("end(0, " + wrong + ")", x.end(0, wrong), BAD);
        }
        for (int p = 0; p < 6; p++) {
            DUE.is("end of the same", x.end(p, p), BAD);
        }
        DUE.is("asked() stays", x.asked(), 1);
    }

    private static void ringsAre(IronedQuarrels x, int persons, int speakers, int fewest, int which) {
        DUE.is("rings()", x.rings(), persons);
        DUE.is("how many PERSONS", x.asked(), speakers);
        DUE.is("away()", x.away(), fewest);
        DUE.is("which", x.asked(), which);
    }

    private static void rings() {
        ringsAre(new IronedQuarrels(), 0, 0, 0, 0);
        IronedQuarrels x = Texts.heapOf("s0101-s1201-s2001-s3401-s4301-s4501-");
        ringsAre(x, 31, 6, 2, 1 + 8);
        x.unsay(0);
        ringsAre(x, 8 + 16, 6, 1, 8);
        x.unsay(5);
        ringsAre(x, 8 + 16, 5, 1, 8);
        x.unsay(3);
        ringsAre(x, 0, 5, 0, 0);
        x.unsay(4);
        ringsAre(x, 0, 3, 0, 0);
        ringsAre(Texts.heapOf("s0101-s1001-s2101-s1301-"), 3, 4, 1, 1);
        ringsAre(Texts.heapOf("s0101-s1001-s1201-s2301-s3201-"), 15, 4, 2, 1 + 4);
        ringsAre(Texts.heapOf("s0101-s1201-s2301-s3401-s4501-s5001-"), 63, 6, 1, 1);
        ringsAre(Texts.heapOf("s5401-s4301-s3201-s2101-s1001-"), 0, 6, 0, 0);
        ringsAre(Texts.heapOf("s0101-s0101-s0101-"), 0, 2, 0, 0);
    }

    private static void away() {
        ringsAre(Texts.heapOf("s0101-s1001-s1201-s2101-"), 7, 3, 1, 2);
        ringsAre(Texts.heapOf("s0101-s1001-s0201-s2001-s1201-s2101-"), 7, 3, 2, 3);
        String four = "s0101-s1001-s0201-s2001-s0301-s3001-s1201-s2101-s1301-s3101-s2301-s3201-";
        ringsAre(Texts.heapOf(four), 15, 4, 3, 7);
        ringsAre(Texts.heapOf("s2501-s5201-s3501-s5301-s4501-s5401-"), 4 + 8 + 16 + 32, 4, 1, 32);
        ringsAre(Texts.heapOf("s0101-s1001-s2301-s3201-s4501-s5401-"), 63, 6, 3, 1 + 4 + 16);
    }

    private static void whose() {
        DUE.is("it ANSWERS none", Texts.heapOf("t0101-").whose(0), 63 - 2);
        DUE.is("it ANSWERS none", Texts.heapOf("s0301-t4501-").whose(1), 63 - 32);
        IronedQuarrels x = Texts.heapOf("s0101-s2301-t4101As5401-t2401Ct5301D");
        DUE.is("whose(2)", x.whose(2), 8);
        DUE.is("whose(4), of a STAIN", x.whose(4), 2 + 8);
        DUE.is("whose(5)", x.whose(5), 2 + 16);
        x.unsay(4);
        x.unsay(1);
        DUE.is("whose(2), SAID or not", x.whose(2), 8);
        DUE.is("whose(4), SAID or not", x.whose(4), 2 + 8);
        x = Texts.heapOf("s0101-s2001-t3501At3001A");
        DUE.is("not WHO is answered", x.whose(2), 2);
        DUE.is("not TO WHOM it is", x.whose(3), 2 + 32);
        DUE.is("nobody", Texts.heapOf("s0101-t2101A").whose(1), 0);
        DUE.is("whose tells not by asked()", x.asked(), 0);
    }

    private static void whoseRefused() {
        IronedQuarrels x = Texts.heapOf("s0101-o0101-t0101-p0101-y0101-c0101-");
        DUE.is("whose(-1)", x.whose(-1), BAD);
        DUE.is("whose(6)", x.whose(6), BAD);
        for (int i = 0; i < 6; i++) {
            DUE.is("whose(" + i + ")", x.whose(i), i == 2 ? 61 : FINDING);
        }
        DUE.is("UNLIKE", x.finding(), 3);
        DUE.is("how many UNLIKE", x.findings(3), 5);
    }

    private static void wash() {
        DUE.is("wash() of none", new IronedQuarrels().wash(), 0);
        IronedQuarrels x = Texts.heapOf("s0101-s0101-s1001-s1001-s1001-s2301-s3201-s4501-");
        DUE.is("wash()", x.wash(), 3);
        x.unsay(0);
        DUE.is("one UNSAID", x.wash(), 2);
        x.unsay(6);
        DUE.is("two UNSAID", x.wash(), 1);
        DUE.is("one that ANSWERS is no first one", Texts.heapOf("s0101-s1001A").wash(), 0);
        DUE.is("the same way round", Texts.heapOf("s0101-s0101-").wash(), 0);
        DUE.is("of any KIND", Texts.heapOf("c5001-t0501-").wash(), 1);
        x = Texts.heapOf("y0101-s2301As1001-");
        DUE.is("both SAID", x.wash(), 1);
        x.unsay(0);
        DUE.is("a first one UNSAID", x.wash(), 0);
    }

    private static void billIs(IronedQuarrels x, int p, long upper, long lower) {
        DUE.is("bill(" + p + ")", x.bill(p), 1);
        DUE.is("upper", x.upper(), upper);
        DUE.is("lower", x.lower(), lower);
    }

    private static void bill() {
        IronedQuarrels x = Texts.heapOf("s0102-s1003Ap2305-y0101C");
        billIs(x, 0, 3, 7);
        billIs(x, 1, 0, 1);
        billIs(x, 2, 4, 7);
        billIs(x, 5, 0, 1);
        x.unsay(1);
        // 3 of the first one, 10 and 1 of the other BUNDLE
        billIs(x, 0, 3, 14);
        billIs(x, 2, 11, 14);
        x.unsay(0);
        billIs(x, 0, 0, 1);
        billIs(x, 2, 1, 1);
        x = Texts.heapOf("y0102-s1209As0309-s3009C");
        billIs(x, 0, 1, 1);
        x = Texts.heapOf("y0102-s1209As3409-");
        x.unsay(0);
        billIs(x, 0, 1, 2);
        billIs(x, 3, 1, 2);
        billIs(x, 1, 0, 1);
    }

    private static void billRefused() {
        IronedQuarrels x = new IronedQuarrels();
        DUE.is("nothing SAID", x.bill(0), FINDING);
        DUE.is("NOUGHT", x.finding(), 4);
        DUE.is("upper() stays", x.upper(), 0);
        DUE.is("lower() stays", x.lower(), 1);
        for (int wrong : NO_PERSONS) {
            DUE.is("BAD ahead of NOUGHT", x.bill(wrong), BAD);
        }
        x = Texts.heapOf("s0101-s2301-");
        billIs(x, 0, 1, 2);
        x.unsay(0);
        x.unsay(1);
        DUE.is("nothing SAID", x.bill(0), FINDING);
        DUE.is("NOUGHT", x.findings(4), 1);
        DUE.is("upper() stays", x.upper(), 1);
        DUE.is("lower() stays", x.lower(), 2);
    }
}
