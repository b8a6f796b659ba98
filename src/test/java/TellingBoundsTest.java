import java.math.BigInteger;

/** Each sentence of "Terms" (ANSWERS) and of promises 37 to 43 that names a bound of what is told. */
public final class TellingBoundsTest {
    private static final int BAD = IronedQuarrels.BAD, NONE = IronedQuarrels.NONE;
    private static final int NOTHING = 1, BEYOND = 2, UNLIKE = 3, NOUGHT = 4, SIZE = 5;
    private static final int MOST = Integer.MAX_VALUE, LEAST = Integer.MIN_VALUE;
    private static final String TWELVE = "s0101-".repeat(12);
    private static final Due DUE = new Due();

    public static void main(String[] args) {
        askedAhead();
        askedByEach();
        askedNotRefused();
        askedByJudgeThatIsNone();
        upperAndLowerAhead();
        upperAndLowerStay();
        lowestTerms();
        countNumbers();
        countNone();
        countAll();
        countSaidOrNot();
        findingAhead();
        findingsNumbers();
        findingsOneByOne();
        digestOfNone();
        digestOfAll();
        digestWrapsAround();
        digestLeavesAsked();
        lasts512Calls();
        DUE.finish("TellingBoundsTest");
    }

    // ---- Promise 37

    private static void askedAhead() {
        DUE.sentence("0 before.");
        IronedQuarrels x = new IronedQuarrels();
        DUE.is("asked()", x.asked(), 0);
        x.row(0, 3);
        x.say(0, 10, 1, NONE);
        x.cheapest(1);
        x.orders();
        x.bill(0);
        x.count(0);
        x.lots(1, 1);
        x.at(0, 3);
        x.judge(5);
        DUE.is("asked() behind calls that tell not by it", x.asked(), 0);
    }

    private static void askedByEach() {
        DUE.sentence("What the latest lay(), at(), mean(), saying(), said(), first(), bundles(), judge(), end(),"
                + " rings(), away()");
        IronedQuarrels x = Texts.heapOf("s0109-s1001A");
        Texts.fill(x, 0, 1, 0);
        x.row(1, 1);
        DUE.tells("lay", x.lay(1, 0, 77), x, 0);
        DUE.tells("at", x.at(1, 0), x, 77);
        x.lay(0, 0, 1);
        DUE.is("lay behind at", x.asked(), 1);
        DUE.tells("mean", x.mean(1), x, 77);
        DUE.tells("saying", x.saying(0, 4), x, 9);
        DUE.tells("said", x.said(), 3, x, 2);
        DUE.tells("saying", x.saying(0, 4), x, 9);
        DUE.tells("first", x.first(1), 0, x, 1);
        DUE.tells("saying", x.saying(0, 4), x, 9);
        DUE.tells("bundles", x.bundles(), 1, x, 1);
        DUE.tells("judge", x.judge(0), 11, x, 2);
        DUE.tells("saying", x.saying(0, 4), x, 9);
        DUE.tells("end", x.end(1, 0), 3, x, 2);
        DUE.tells("saying", x.saying(0, 4), x, 9);
        DUE.tells("rings", x.rings(), 3, x, 2);
        DUE.tells("away", x.away(), 1, x, 1);
    }

    private static void askedNotRefused() {
        DUE.sentence("that was not refused");
        IronedQuarrels x = Texts.heapOf("s0101-s0101-");
        x.row(0, 0);
        Texts.fill(x, 1, 0, 2);
        x.saying(0, 5);
        x.lay(0, 0, 1);
        x.lay(6, 0, 1);
        x.at(0, 0);
        x.at(2, 0);
        x.mean(0);
        x.mean(2);
        x.saying(2, 0);
        x.saying(0, 8);
        x.first(2);
        x.judge(1);
        x.judge(2);
        x.judge(-1);
        x.end(0, 0);
        x.end(0, 6);
        DUE.is("asked() behind what was refused", x.asked(), NONE);
    }

    private static void askedByJudgeThatIsNone() {
        DUE.sentence("(nor NONE, but as told)");
        IronedQuarrels x = Texts.heapOf("s0101-s0101-");
        Texts.fill(x, 1, 0, 0);
        x.saying(0, 5);
        DUE.is("fault(0), that is NONE", x.fault(0), NONE);
        DUE.is("asked() behind fault()", x.asked(), NONE);
        DUE.tells("judge(1), that is NONE", x.judge(1), NONE, x, 1);
        Texts.fill(x, 1);
        DUE.tells("judge of an empty ROW", x.judge(1), NONE, x, 0);
    }

    // ---- Promises 38 and 39

    private static void upperAndLowerAhead() {
        DUE.sentence("The upper number that was told last; 0 before. .. Its lower number; 1 before.");
        IronedQuarrels x = new IronedQuarrels();
        DUE.is("upper()", x.upper(), 0);
        DUE.is("lower()", x.lower(), 1);
        x.bill(0);
        x.last(0);
        DUE.is("upper() behind what was refused", x.upper(), 0);
        DUE.is("lower() behind what was refused", x.lower(), 1);
    }

    private static void upperAndLowerStay() {
        DUE.sentence("The upper number that was told last");
        IronedQuarrels x = Texts.heapOf("s0101-s2301-s4501-");
        DUE.shares("bill(2)", x.bill(2), x, 1, 3);
        x.bill(6);
        x.last(3);
        x.unsay(0);
        x.last(0);
        DUE.is("upper() stays", x.upper(), 1);
        DUE.is("lower() stays", x.lower(), 3);
        DUE.shares("orders()", x.orders(), x, 2, 1);
        DUE.shares("last(1)", x.last(1), x, 1, 2);
        DUE.shares("bill(0)", x.bill(0), x, 0, 1);
        x.lots(2, 1);
        x.bill(0);
        DUE.is("upper() behind NOUGHT", x.upper(), 0);
        DUE.is("lower() behind NOUGHT", x.lower(), 1);
    }

    private static void lowestTerms() {
        DUE.sentence("are told by upper(), lower(), in lowest terms, the lower number above 0 (0 by 1)");
        IronedQuarrels x = Texts.heapOf("s0102-s2304-s4506-");
        DUE.shares("2 of 12", x.bill(0), x, 1, 6);
        DUE.shares("4 of 12", x.bill(2), x, 1, 3);
        DUE.shares("6 of 12", x.bill(4), x, 1, 2);
        DUE.shares("0 of 12", x.bill(1), x, 0, 1);
        x = Texts.heapOf("s0109-s0203-");
        DUE.shares("12 of 12", x.bill(0), x, 1, 1);
        x = Texts.heapOf("s0103-s2307-");
        DUE.shares("3 of 10", x.bill(0), x, 3, 10);
    }

    // ---- Promise 40

    private static void countNumbers() {
        DUE.sentence("0 SAYINGS, .. 8 kept HEAPS. BAD.");
        IronedQuarrels x = Texts.heapOf("s0101-");
        x.keep(0);
        DUE.is("count(0)", x.count(0), 1);
        DUE.is("count(-1)", x.count(-1), BAD);
        DUE.is("count(8)", x.count(8), 1);
        DUE.is("count(9)", x.count(9), BAD);
        DUE.is("count(most)", x.count(MOST), BAD);
        DUE.is("count(least)", x.count(LEAST), BAD);
    }

    private static void countsAre(IronedQuarrels x, int... counts) {
        for (int what = 0; what < counts.length; what++) {
            DUE.is("count(" + what + ")", x.count(what), counts[what]);
        }
    }

    private static void countNone() {
        DUE.sentence("No ROWS, TEXTS, SAYINGS.");
        countsAre(new IronedQuarrels(), 0, 0, 0, 0, 0, 0, 0, 0, 0);
    }

    private static void countAll() {
        DUE.sentence("1 how many are SAID, 2 DEEDS, 3 all PRICES of those now, 4 how many PERSONS began a BUNDLE,"
                + " 5 OLD ones (COLOURS, too), 6 ROWS, 7 TEXTS that are there, 8 kept HEAPS");
        IronedQuarrels x = Texts.heapOf("p0109-".repeat(12));
        countsAre(x, 12, 12, 0, 12 * (11 + 18), 1, 0, 0, 1, 0);
        for (int k = 0; k < 3; k++) {
            x.keep(k);
        }
        for (int t = 0; t < 4; t++) {
            x.text(t, 0);
        }
        for (int r = 0; r < 6; r++) {
            x.row(r, 0);
        }
        x.lots(12, 1);
        countsAre(x, 12, 0, 12, 0, 1, 0, 6, 4, 3);
        countsAre(Texts.heapOf("o0109-c1059-".repeat(6)), 12, 12, 0, 6 * 12 + 6 * 17, 2, 12, 0, 1, 0);
        countsAre(Texts.heapOf("s0109-s1209-s2309-s3409-s4509-s5009-"), 6, 6, 0, 54, 6, 0, 0, 1, 0);
        countsAre(Texts.heapOf("s0109-s1209As2309As3409As4509As5009A"), 6, 6, 0, 54, 1, 0, 0, 1, 0);
    }

    private static void countSaidOrNot() {
        DUE.sentence("4 how many PERSONS began a BUNDLE, 5 OLD ones (COLOURS, too)");
        IronedQuarrels x = Texts.heapOf("o0101-c2301-s4501-");
        x.lots(12, 1);
        countsAre(x, 3, 0, 3, 0, 3, 2, 0, 1, 0);
    }

    // ---- Promises 41 and 42

    private static void findingAhead() {
        DUE.sentence("The latest FINDING (0 before any).");
        IronedQuarrels x = new IronedQuarrels();
        DUE.is("finding()", x.finding(), 0);
        x.row(6, 0);
        x.keep(0);
        x.say(0, 0, 0, 0);
        DUE.is("finding() behind other refusals", x.finding(), 0);
        DUE.finds("mean(0)", x.mean(0), x, NOTHING);
        x.row(0, 0);
        x.row(6, 0);
        DUE.is("finding() stays", x.finding(), NOTHING);
        DUE.finds("mean(0)", x.mean(0), x, NOUGHT);
        DUE.finds("at(1, 0)", x.at(1, 0), x, NOTHING);
    }

    private static void findingsNumbers() {
        DUE.sentence("How often a FINDING (1 .. 5) was answered. BAD.");
        IronedQuarrels x = new IronedQuarrels();
        for (int f = 1; f <= 5; f++) {
            DUE.is("findings(" + f + ")", x.findings(f), 0);
        }
        DUE.is("findings(0)", x.findings(0), BAD);
        DUE.is("findings(6)", x.findings(6), BAD);
        DUE.is("findings(-1)", x.findings(-1), BAD);
        DUE.is("findings(most)", x.findings(MOST), BAD);
        DUE.is("findings(least)", x.findings(LEAST), BAD);
    }

    private static void findingsOneByOne() {
        DUE.sentence("FINDINGS: 1 NOTHING .. 2 BEYOND .. 3 UNLIKE .. 4 NOUGHT .. 5 SIZE");
        IronedQuarrels x = Texts.heapOf("s0101-");
        x.row(0, 0);
        int[] often = {0, 0, 0, 0, 0, 0};
        for (int round = 0; round < 3; round++) {
            for (int f = 1; f <= 5; f++) {
                findOnce(x, f);
                often[f]++;
                for (int g = 1; g <= 5; g++) {
                    DUE.is("findings(" + g + ")", x.findings(g), often[g]);
                }
            }
        }
    }

    private static void findOnce(IronedQuarrels x, int finding) {
        switch (finding) {
            case NOTHING:
                DUE.finds("tear(1)", x.tear(1), x, NOTHING);
                break;
            case BEYOND:
                DUE.finds("at(0, 0)", x.at(0, 0), x, BEYOND);
                break;
            case UNLIKE:
                DUE.finds("whose(0)", x.whose(0), x, UNLIKE);
                break;
            case NOUGHT:
                DUE.finds("mean(0)", x.mean(0), x, NOUGHT);
                break;
            default:
                DUE.finds("row(0, -1)", x.row(0, -1), x, SIZE);
        }
    }

    // ---- Promise 43

    /** The digest without any wrap-around, cut to a long at its end alone. */
    private static long digestBy(long... values) {
        BigInteger h = BigInteger.valueOf(17);
        for (long v : values) {
            h = h.multiply(BigInteger.valueOf(31)).add(BigInteger.valueOf(v));
        }
        return h.longValue();
    }

    private static void digestOfNone() {
        DUE.sentence("of each ROW its size (-1: missing) and places, of each TEXT likewise");
        IronedQuarrels x = new IronedQuarrels();
        DUE.is("all missing", x.digest(), digestBy(0, 0, 0, 0, 0, 0, 0, 0, 0, -1, -1, -1,
                -1, -1, -1, -1, -1, -1, -1, -1, -1, -1));
        x.row(0, 0);
        x.row(5, 2);
        x.text(0, 2);
        x.text(3, 0);
        DUE.is("some there", x.digest(), digestBy(0, 0, 0, 0, 0, 0, 2, 2, 0, -1, -1, -1,
                0, -1, -1, -1, -1, 2, 0, 0, 2, 32, 32, -1, -1, 0));
        x.lay(5, 1, -5);
        x.put(0, 1, 255);
        x.row(0, 1);
        x.tear(5);
        DUE.is("one missing again", x.digest(), digestBy(0, 0, 0, 0, 0, 0, 1, 2, 0, -1, -1, -1,
                1, 0, -1, -1, -1, -1, -1, 2, 32, -1, -1, -1, 0));
    }

    private static void digestOfAll() {
        DUE.sentence("of each SAYING saying() 0 to 7; of each kept HEAP how many DEEDS (-1: missing)");
        IronedQuarrels x = new IronedQuarrels();
        x.say(5, 543, 9, NONE);
        x.keep(2);
        x.unsay(0);
        x.keep(0);
        x.undo(1);
        x.say(4, 451, 2, 0);
        DUE.is("two SAYINGS, two kept", x.digest(), digestBy(2, 2, 2, 5 + 2, 1, 1, 0, 0, 2,
                5, 5, 4, 3, 9, NONE, 1, 5, 4, 4, 5, 1, 2, 0, 1, 2, 2, -1, 1,
                -1, -1, -1, -1, -1, -1, -1, -1, -1, -1));
    }

    private static void digestWrapsAround() {
        DUE.sentence("h = 17; then h = 31 h + v for each v");
        IronedQuarrels x = Texts.heapOf(TWELVE);
        long[] values = new long[9 + 12 * 8 + 3 + 6 * 41 + 4 * 81];
        int size = 0;
        int[] counts = {12, 12, 0, 12 * 12, 1, 0, 6, 4, 0};
        for (int v : counts) {
            values[size++] = v;
        }
        for (int i = 0; i < 12; i++) {
            for (int v : new int[] {0, 0, 1, 0, 1, NONE, 1, 12}) {
                values[size++] = v;
            }
        }
        for (int k = 0; k < 3; k++) {
            values[size++] = -1;
        }
        for (int r = 0; r < 6; r++) {
            x.row(r, 40);
            x.lay(r, 39, r % 2 == 0 ? MOST : LEAST);
            values[size] = 40;
            values[size + 40] = r % 2 == 0 ? MOST : LEAST;
            size += 41;
        }
        for (int t = 0; t < 4; t++) {
            x.text(t, 80);
            x.put(t, 79, -128 + t);
            values[size++] = 80;
            for (int i = 0; i < 80; i++) {
                values[size++] = i == 79 ? -128 + t : 32;
            }
        }
        DUE.is("all as large as can be", x.digest(), digestBy(values));
    }

    private static void digestLeavesAsked() {
        DUE.sentence("asked() stays");
        IronedQuarrels x = Texts.heapOf("s0101-");
        x.saying(0, 5);
        x.bill(0);
        long digest = x.digest();
        DUE.is("asked()", x.asked(), NONE);
        DUE.is("upper()", x.upper(), 1);
        DUE.is("digest() again", x.digest(), digest);
        x.saying(0, 4);
        DUE.is("what was asked is not in it", x.digest(), digest);
        x.at(0, 0);
        DUE.is("nor FINDINGS", x.digest(), digest);
    }

    private static void lasts512Calls() {
        DUE.sentence("An object is used for at most 512 calls after it has been made");
        IronedQuarrels x = new IronedQuarrels();
        x.row(0, 1);
        for (int call = 2; call <= 510; call++) {
            x.lay(0, 0, call);
        }
        DUE.is("lay, call 511", x.lay(0, 0, 3), 1);
        DUE.is("asked(), call 512", x.asked(), 510);
        x = new IronedQuarrels();
        for (int call = 1; call <= 511; call++) {
            x.mean(0);
        }
        DUE.is("findings(1), call 512", x.findings(NOTHING), 511);
    }
}
