/** Promises 25 to 28: cheapest, orders, judge, last. */
public final class OrdersTest {
    private static final int BAD = IronedQuarrels.BAD, FINDING = IronedQuarrels.FINDING;
    private static final int STATE = IronedQuarrels.STATE, NONE = IronedQuarrels.NONE;
    private static final Due DUE = new Due();

    public static void main(String[] args) {
        cheapest();
        cheapestOfAlike();
        cheapestByParity();
        orders();
        judge();
        judgeNone();
        judgeRefused();
        last();
        DUE.finish("OrdersTest");
    }

    private static void cheapest() {
        IronedQuarrels x = new IronedQuarrels();
        DUE.is("cheapest(-1)", x.cheapest(-1), BAD);
        DUE.is("cheapest(6)", x.cheapest(6), BAD);
        DUE.is("no ROW came", x.count(6), 0);
        x.row(5, 40);
        DUE.is("nothing to unsay", x.cheapest(5), 0);
        Texts.rowIs(DUE, x, 5);
        x = Texts.heapOf("s0102-s1003As0104-s2305-");
        DUE.is("cheapest(0)", x.cheapest(0), 2 + 3 + 4 + 5 + 2 + 1);
        Texts.rowIs(DUE, x, 0, 1, 0, 2, 3);
        DUE.is("nothing was UNSAID", x.said(), 15);
        DUE.is("no DEED", x.count(2), 0);
        x.unsay(2);
        DUE.is("of what is SAID", x.cheapest(0), 2 + 3 + 5 + 1);
        Texts.rowIs(DUE, x, 0, 1, 0, 3);
        DUE.is("asked() as it was", x.asked(), 3);
        x.unsay(3);
        x.unsay(1);
        x.unsay(0);
        DUE.is("nothing SAID", x.cheapest(0), 0);
        Texts.rowIs(DUE, x, 0);
    }

    private static void cheapestOfAlike() {
        IronedQuarrels x = Texts.heapOf("s0101-".repeat(12));
        DUE.is("all alike", x.cheapest(1), 12 + 66);
        Texts.rowIs(DUE, x, 1, 0, 1, 2, 3, 4, 5, 6, 7, 8, 9, 10, 11);
        x = Texts.heapOf("s0101-s2301As4501-s2301-");
        DUE.is("the first of alike ones", x.cheapest(1), 5);
        Texts.rowIs(DUE, x, 1, 1, 0, 2, 3);
    }

    private static void cheapestByParity() {
        // a SORRY's half is cut, so it pays to unsay it at an odd HEAT
        IronedQuarrels x = Texts.heapOf("s0101-y0101-s0101-");
        DUE.is("a SORRY in the midst", x.cheapest(0), 5);
        Texts.rowIs(DUE, x, 0, 0, 1, 2);
        x = Texts.heapOf("s0101-s0101-s0101-y0101-");
        DUE.is("a SORRY behind three", x.cheapest(0), 2 + 3 + 2 + 1);
        Texts.rowIs(DUE, x, 0, 3, 0, 1, 2);
        x = Texts.heapOf("y0101-y1001-s0101-s0101A");
        DUE.is("two SORRIES, one answered", x.cheapest(0), 2 + 2 + 2 + 1);
        Texts.rowIs(DUE, x, 0, 0, 1, 2, 3);
        DUE.is("judge of it", x.judge(0), 7);
    }

    private static void ordersAre(IronedQuarrels x, long want) {
        DUE.is("orders()", x.orders(), 1);
        DUE.is("how many", x.upper(), want);
        DUE.is("by", x.lower(), 1);
    }

    private static void orders() {
        IronedQuarrels x = new IronedQuarrels();
        ordersAre(x, 1);
        ordersAre(Texts.heapOf("s0101-".repeat(12)), 479001600L);
        ordersAre(Texts.heapOf("s0101-s0101As0101Bs0101C"), 1);
        ordersAre(Texts.heapOf("y0101-s0101As0101Bs0101C"), 4);
        ordersAre(Texts.heapOf("s0101-s0101As0101As0101A"), 6);
        ordersAre(Texts.heapOf("s0101-s0101As0101-s0101C"), 6);
        ordersAre(Texts.heapOf("s0101-y0101As0101Bs0101C"), 6);
        x = Texts.heapOf("y0101-s0101As0101B");
        x.unsay(0);
        ordersAre(x, 1);
        x.say(0, 10, 1, 0);
        ordersAre(x, 3);
        x.unsay(2);
        x.unsay(1);
        x.unsay(3);
        ordersAre(x, 1);
    }

    private static void judgeIs(IronedQuarrels x, int want, int gone, int... order) {
        Texts.fill(x, 3, order);
        DUE.is("judge(3)", x.judge(3), want);
        DUE.is("as far as it goes", x.asked(), gone);
    }

    private static void judge() {
        IronedQuarrels x = Texts.heapOf("s0102-s1003Ay0104-s2305-");
        judgeIs(x, (3 + 2) + (2 + 1) + 4 + 5, 4, 1, 0, 2, 3);
        judgeIs(x, (2 + 8) / 2 + (3 + 1) + 2 + 5, 4, 2, 1, 3, 0);
        DUE.is("nothing was UNSAID", x.said(), 15);
        DUE.is("no DEED", x.count(2), 0);
        x.unsay(1);
        judgeIs(x, 5 + (2 + 1) + 4, 3, 3, 0, 2);
        x = new IronedQuarrels();
        judgeIs(x, 0, 0);
    }

    private static void judgeNone() {
        IronedQuarrels x = Texts.heapOf("s0102-s1003Ay0104-s2305C");
        judgeIs(x, NONE, 0);
        judgeIs(x, NONE, 0, 0, 1, 2, 3);
        judgeIs(x, NONE, 1, 2, 2, 1, 0);
        judgeIs(x, NONE, 3, 2, 1, 3);
        judgeIs(x, NONE, 4, 2, 1, 3, 0, 0);
        x.unsay(1);
        judgeIs(x, NONE, 0, 1, 0, 2, 3);
        judgeIs(x, NONE, 2, 0, 2, 1, 3);
        x.unsay(0);
        x.unsay(2);
        x.unsay(3);
        judgeIs(x, 0, 0);
        judgeIs(x, NONE, 0, 3);
    }

    private static void judgeRefused() {
        IronedQuarrels x = Texts.heapOf("s0101-s0101-");
        DUE.is("judge(-1)", x.judge(-1), BAD);
        DUE.is("judge(6)", x.judge(6), BAD);
        DUE.is("judge(0)", x.judge(0), FINDING);
        DUE.is("NOTHING", x.finding(), 1);
        int[] none = {2, -1, 12, 31, 32, Integer.MAX_VALUE, Integer.MIN_VALUE, NONE};
        judgeIs(x, 1 + 2, 2, 0, 1);
        for (int i = 0; i < none.length; i++) {
            judgeIs(x, FINDING, 0, none[i]);
            judgeIs(x, FINDING, 0, 0, none[i]);
            // also behind the place from which on it is no ORDER
            judgeIs(x, FINDING, 0, 0, 0, none[i]);
            DUE.is("UNLIKE", x.finding(), 3);
        }
        DUE.is("how many UNLIKE", x.findings(3), 3 * none.length);
    }

    private static void lastIs(IronedQuarrels x, int i, long upper, long lower) {
        DUE.is("last(" + i + ")", x.last(i), 1);
        DUE.is("upper", x.upper(), upper);
        DUE.is("lower", x.lower(), lower);
    }

    private static void last() {
        IronedQuarrels x = new IronedQuarrels();
        DUE.is("last(0) of none", x.last(0), BAD);
        x = Texts.heapOf("s0101-s0101As0101By0101-s0101Ds0101E");
        DUE.is("last(-1)", x.last(-1), BAD);
        DUE.is("last(6)", x.last(6), BAD);
        lastIs(x, 0, 1, 2);
        lastIs(x, 1, 0, 1);
        lastIs(x, 2, 0, 1);
        lastIs(x, 3, 1, 6);
        lastIs(x, 4, 1, 3);
        lastIs(x, 5, 0, 1);
        x.unsay(3);
        lastIs(x, 0, 3, 5);
        lastIs(x, 4, 2, 5);
        DUE.is("last of one that is UNSAID", x.last(3), STATE);
        DUE.is("upper() stays", x.upper(), 2);
        x.unsay(2);
        x.unsay(1);
        x.unsay(0);
        x.unsay(5);
        lastIs(x, 4, 1, 1);
        // one that ANSWERS what is UNSAID holds nothing back
        x.say(0, 10, 1, 2);
        lastIs(x, 6, 1, 2);
    }
}
