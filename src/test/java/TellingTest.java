/** Promises 37 to 43: asked, upper, lower, count, finding, findings, digest. */
public final class TellingTest {
    private static final int BAD = IronedQuarrels.BAD, FINDING = IronedQuarrels.FINDING;
    private static final int NONE = IronedQuarrels.NONE;
    private static final String HEAP = "s0102-o1003Ay2104-c0151Cp2103Bo2131-";
    private static final Due DUE = new Due();

    public static void main(String[] args) {
        asked();
        askedStays();
        upperLower();
        count();
        countPrices();
        countFull();
        finding();
        findingStays();
        digestOfNew();
        digest();
        constants();
        DUE.finish("TellingTest");
    }

    private static void told(IronedQuarrels x, String call, int want) {
        DUE.is("asked() behind " + call, x.asked(), want);
    }

    private static void asked() {
        IronedQuarrels x = Texts.heapOf(HEAP);
        told(x, "nothing", 0);
        Texts.fill(x, 0, 8, 3);
        x.lay(0, 0, 5);
        told(x, "lay", 8);
        x.at(0, 1);
        told(x, "at", 3);
        x.mean(0);
        told(x, "mean", 4);
        x.saying(0, 4);
        told(x, "saying", 2);
        x.said();
        told(x, "said", 8 + 16 + 32 + 4);
        x.first(4);
        told(x, "first", 2);
        x.bundles();
        told(x, "bundles", 1 + 4 + 32);
        x.judge(0);
        told(x, "judge that is NONE", 2);
        x.end(0, 1);
        told(x, "end", 4);
        x.rings();
        told(x, "rings", 3);
        x.away();
        told(x, "away", 1);
    }

    private static void askedStays() {
        IronedQuarrels x = Texts.heapOf(HEAP);
        x.saying(0, 5);
        x.row(1, 3);
        x.text(1, 0);
        x.put(0, 0, 's');
        x.fault(0);
        x.mark(1, 1);
        x.say(0, 10, 1, NONE);
        x.unsay(6);
        x.undo(1);
        x.keep(0);
        x.on(0);
        x.leans(4);
        x.feeds(0);
        x.longest(2);
        x.cheapest(3);
        x.orders();
        x.last(0);
        x.wash();
        x.bill(0);
        x.colour(3, 3);
        x.count(3);
        x.digest();
        x.tear(1);
        x.copy(2, 0, 3, 0, 1);
        x.lots(1, 1);
        x.heap(0);
        told(x, "calls that tell not by it", NONE);
        x.lay(5, 0, 0);
        x.at(6, 0);
        x.mean(5);
        x.saying(9, 0);
        x.first(-1);
        x.judge(6);
        x.judge(5);
        Texts.fill(x, 4, 3, 9);
        x.saying(0, 5);
        x.judge(4);
        x.end(3, 3);
        told(x, "what is refused", NONE);
    }

    private static void upperLower() {
        IronedQuarrels x = Texts.heapOf("s0101-s1001-s2302-");
        DUE.is("upper() ahead", x.upper(), 0);
        DUE.is("lower() ahead", x.lower(), 1);
        x.bill(2);
        DUE.is("upper()", x.upper(), 1);
        DUE.is("lower()", x.lower(), 3);
        x.last(3);
        x.bill(6);
        x.asked();
        DUE.is("upper() stays", x.upper(), 1);
        DUE.is("lower() stays", x.lower(), 3);
        x.bill(5);
        DUE.is("0 by", x.upper(), 0);
        DUE.is("1", x.lower(), 1);
        x.last(1);
        DUE.is("lower()", x.lower(), 3);
        x.orders();
        DUE.is("upper()", x.upper(), 6);
        DUE.is("lower()", x.lower(), 1);
    }

    private static void countsAre(IronedQuarrels x, int... counts) {
        for (int what = 0; what < counts.length; what++) {
            DUE.is("count(" + what + ")", x.count(what), counts[what]);
        }
    }

    private static void count() {
        IronedQuarrels x = Texts.heapOf(HEAP);
        x.text(3, 0);
        x.row(0, 0);
        x.row(5, 1);
        x.row(4, 1);
        x.keep(1);
        countsAre(x, 6, 6, 0, 4 + 3 + 5 + 8 + 8 + 3, 2, 3, 3, 2, 1);
        x.unsay(3);
        x.unsay(5);
        x.say(1, 345, 2, NONE);
        x.keep(0);
        x.tear(4);
        countsAre(x, 7, 5, 3, 3 + 2 + 4 + 7 + 1, 3, 4, 2, 2, 2);
        DUE.is("count(-1)", x.count(-1), BAD);
        DUE.is("count(9)", x.count(9), BAD);
        DUE.is("count(most)", x.count(Integer.MAX_VALUE), BAD);
        DUE.is("count(least)", x.count(Integer.MIN_VALUE), BAD);
        x.heap(0);
        countsAre(x, 6, 6, 0, 4 + 3 + 5 + 8 + 8 + 3, 2, 3, 2, 2, 0);
    }

    private static void countPrices() {
        IronedQuarrels x = Texts.heapOf("s0102-s0103-");
        countsAre(x, 2, 2, 0, 7);
        x.unsay(0);
        countsAre(x, 2, 1, 1, 3);
        x.unsay(1);
        countsAre(x, 2, 0, 2, 0);
        countsAre(Texts.heapOf("o0101-c1001Ay1001A"), 3, 3, 0, 3 + 3 + 2, 1, 2, 0, 1, 0);
    }

    private static void countFull() {
        IronedQuarrels x = Texts.heapOf("c0109-".repeat(12));
        countsAre(x, 12, 12, 0, 12 * 12, 1, 12, 0, 1, 0);
        DUE.is("all have its TOPIC", Texts.heapOf("c0109-" + "c0109A".repeat(11)).mark(11, 5), 12);
        DUE.is("bill(0)", x.bill(0), 1);
        DUE.is("all of it", x.upper(), x.lower());
        // what went again is counted no more
        x = new IronedQuarrels();
        x.say(1, 10, 1, NONE);
        x.undo(0);
        countsAre(x, 0, 0, 0, 0, 0, 0, 0, 0, 0);
    }

    private static void finding() {
        IronedQuarrels x = new IronedQuarrels();
        DUE.is("finding() ahead", x.finding(), 0);
        DUE.is("at", x.at(0, 0), FINDING);
        DUE.is("NOTHING", x.finding(), 1);
        x.row(0, 0);
        DUE.is("at", x.at(0, 0), FINDING);
        DUE.is("BEYOND", x.finding(), 2);
        x.say(0, 10, 1, NONE);
        DUE.is("mark", x.mark(0, 1), FINDING);
        DUE.is("UNLIKE", x.finding(), 3);
        DUE.is("mean", x.mean(0), FINDING);
        DUE.is("NOUGHT", x.finding(), 4);
        DUE.is("row", x.row(0, -1), FINDING);
        DUE.is("SIZE", x.finding(), 5);
        for (int f = 1; f <= 5; f++) {
            DUE.is("findings(" + f + ")", x.findings(f), 1);
        }
        x.mean(0);
        x.mean(0);
        DUE.is("findings(4)", x.findings(4), 3);
        DUE.is("findings(5)", x.findings(5), 1);
        DUE.is("findings(0)", x.findings(0), BAD);
        DUE.is("findings(6)", x.findings(6), BAD);
        DUE.is("findings(-1)", x.findings(-1), BAD);
        DUE.is("findings(least)", x.findings(Integer.MIN_VALUE), BAD);
    }

    private static void findingStays() {
        IronedQuarrels x = new IronedQuarrels();
        x.mean(0);
        x.mean(9);
        x.keep(0);
        x.row(0, 1);
        x.findings(0);
        x.count(9);
        x.digest();
        DUE.is("finding()", x.finding(), 1);
        DUE.is("findings(1)", x.findings(1), 1);
    }

    private static long put(long h, long... values) {
        long sum = h;
        for (long value : values) {
            sum = 31 * sum + value;
        }
        return sum;
    }

    private static void digestOfNew() {
        long h = put(17, 0, 0, 0, 0, 0, 0, 0, 0, 0, -1, -1, -1, -1, -1, -1, -1, -1, -1, -1, -1, -1, -1);
        DUE.is("digest of a new one", new IronedQuarrels().digest(), h);
    }

    private static void digest() {
        IronedQuarrels x = Texts.heapOf("s0112-c1054A");
        x.text(0, 0);
        Texts.fill(x, 1, 5, Integer.MIN_VALUE, 7);
        x.row(4, 0);
        x.text(2, 3);
        x.put(2, 1, 200);
        x.unsay(1);
        x.keep(0);
        x.say(4, 233, 6, 0);
        x.keep(2);
        x.saying(0, 4);
        long h = put(17, 3, 2, 2, 8, 1, 1, 2, 2, 2);
        h = put(h, 0, 0, 1, 1, 2, NONE, 1, 2);
        h = put(h, 5, 1, 0, 5, 4, 0, 0, 7);
        h = put(h, 4, 2, 3, 3, 6, 0, 1, 6);
        h = put(h, 1, -1, 2);
        h = put(h, -1, 3, 5, Integer.MIN_VALUE, 7, -1, -1, 0, -1);
        h = put(h, 0, -1, 3, 32, -56, 32, -1);
        DUE.is("digest()", x.digest(), h);
        told(x, "digest", 2);
        DUE.is("digest() again", x.digest(), h);
    }

    private static void constants() {
        DUE.is("BAD", IronedQuarrels.BAD, -1);
        DUE.is("FULL", IronedQuarrels.FULL, -2);
        DUE.is("FINDING", IronedQuarrels.FINDING, -3);
        DUE.is("STATE", IronedQuarrels.STATE, -4);
        DUE.is("SPENT", IronedQuarrels.SPENT, -6);
        DUE.is("NONE", IronedQuarrels.NONE, -9);
    }
}
