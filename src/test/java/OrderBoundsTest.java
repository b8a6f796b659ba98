/** Each sentence of "Terms", 2, and of promises 20 to 28 that names a bound: leaning, ORDERS. */
public final class OrderBoundsTest {
    private static final int BAD = IronedQuarrels.BAD, STATE = IronedQuarrels.STATE, NONE = IronedQuarrels.NONE;
    private static final int NOTHING = 1, UNLIKE = 3;
    private static final int MOST = Integer.MAX_VALUE, LEAST = Integer.MIN_VALUE;
    private static final String TWELVE = "s0101-".repeat(12);
    private static final String ONE_BEHIND_THE_OTHER =
            "s0101-s0101As0101Bs0101Cs0101Ds0101Es0101Fs0101Gs0101Hs0101Is0101Js0101K";
    private static final Due DUE = new Due();

    public static void main(String[] args) {
        leaningNumbers();
        leansSaidOrNot();
        leansOnNoneAndAll();
        firstPerhapsItself();
        bundlesNoneAndAll();
        bundlesWithOneSaid();
        longestNoneAndAll();
        longestOfAlike();
        longestAnew();
        cheapestNoneAndAll();
        cheapestOfAlike();
        cheapestAnew();
        cheapestAsEachMayBe();
        ordersLeastAndMost();
        judgeEmpty();
        judgeTooShortOrLong();
        judgeAsFarAsItGoes();
        judgeFullRow();
        judgeNumbers();
        judgeUnlikeAnywhere();
        lastNumbers();
        lastNotSaid();
        lastNeverAndAlways();
        DUE.finish("OrderBoundsTest");
    }

    // ---- Promises 20 to 22

    private static void leaningNumbers() {
        DUE.sentence("SAYINGS (bits) that one LEANS on. BAD.");
        for (int many : new int[] {0, 1, 2, 12}) {
            IronedQuarrels x = Texts.heapOf("s0101-".repeat(many));
            for (int i : new int[] {-1, many, many + 1, 32, MOST, LEAST, NONE}) {
                DUE.is("leans(" + i + ") of " + many, x.leans(i), BAD);
                DUE.is("feeds(" + i + ") of " + many, x.feeds(i), BAD);
                DUE.is("first(" + i + ") of " + many, x.first(i), BAD);
            }
            if (many > 0) {
                DUE.is("leans(0) of " + many, x.leans(0), 0);
                DUE.is("feeds(0) of " + many, x.feeds(0), 0);
                DUE.tells("first(0) of " + many, x.first(0), 0, x, 0);
                DUE.is("leans(last) of " + many, x.leans(many - 1), 0);
                DUE.is("feeds(last) of " + many, x.feeds(many - 1), 0);
                DUE.tells("first(last) of " + many, x.first(many - 1), many - 1, x, 0);
            }
        }
    }

    private static void leansSaidOrNot() {
        DUE.sentence("One LEANS on that which it ANSWERS (SAID or not), and on what that LEANS on.");
        IronedQuarrels x = Texts.heapOf("s0101-y0101As0101B");
        x.unsay(1);
        DUE.is("leans(2) on one that is UNSAID", x.leans(2), 3);
        DUE.is("feeds(1) that is UNSAID", x.feeds(1), 4);
        DUE.is("feeds(0) by one that is UNSAID", x.feeds(0), 6);
        x.unsay(2);
        x.unsay(0);
        DUE.is("leans(2), all UNSAID", x.leans(2), 3);
        DUE.is("feeds(0), all UNSAID", x.feeds(0), 6);
        DUE.tells("first(2), all UNSAID", x.first(2), 0, x, 2);
    }

    private static void leansOnNoneAndAll() {
        DUE.sentence("SAYINGS (bits) that LEAN on one.");
        IronedQuarrels x = Texts.heapOf(ONE_BEHIND_THE_OTHER);
        for (int i = 0; i < 12; i++) {
            DUE.is("leans(" + i + ")", x.leans(i), (1 << i) - 1);
            DUE.is("feeds(" + i + ")", x.feeds(i), 4095 & ~((2 << i) - 1));
        }
        x = Texts.heapOf("s0101-" + "s0101A".repeat(11));
        DUE.is("feeds(0), all ANSWER it", x.feeds(0), 4094);
        DUE.is("leans(11) on it alone", x.leans(11), 1);
    }

    private static void firstPerhapsItself() {
        DUE.sentence("The SAYING with which the BUNDLE of one began (perhaps itself); on how many it LEANS by asked().");
        IronedQuarrels x = Texts.heapOf(ONE_BEHIND_THE_OTHER);
        DUE.tells("first(0)", x.first(0), 0, x, 0);
        DUE.tells("first(1)", x.first(1), 0, x, 1);
        DUE.tells("first(11)", x.first(11), 0, x, 11);
        x = Texts.heapOf("s0101-".repeat(11) + "s0101K");
        DUE.tells("first(10)", x.first(10), 10, x, 0);
        DUE.tells("first(11)", x.first(11), 10, x, 1);
    }

    // ---- Promises 23 and 24

    private static void bundlesNoneAndAll() {
        DUE.sentence("How many BUNDLES have a SAYING that is SAID; with which these began by asked() (bits).");
        IronedQuarrels x = new IronedQuarrels();
        DUE.tells("of none", x.bundles(), 0, x, 0);
        x = Texts.heapOf(TWELVE);
        DUE.tells("of twelve", x.bundles(), 12, x, 4095);
        x.lots(12, 1);
        DUE.tells("all UNSAID", x.bundles(), 0, x, 0);
        x = Texts.heapOf(ONE_BEHIND_THE_OTHER);
        DUE.tells("of one", x.bundles(), 1, x, 1);
        DUE.sentence("A BUNDLE is a SAYING that ANSWERS none, and all that LEAN on it.");
        x = Texts.heapOf("s0101-s2301-s0101As2301B");
        DUE.tells("of two", x.bundles(), 2, x, 3);
    }

    private static void bundlesWithOneSaid() {
        DUE.sentence("How many BUNDLES have a SAYING that is SAID");
        IronedQuarrels x = Texts.heapOf("y0101-y0101As0101B");
        x.unsay(0);
        x.unsay(1);
        DUE.tells("one left, the first one UNSAID", x.bundles(), 1, x, 1);
        x.unsay(2);
        DUE.tells("none left", x.bundles(), 0, x, 0);
    }

    private static void longestNoneAndAll() {
        DUE.sentence("The longest row of SAYINGS (SAID or not) each of which ANSWERS the one ahead comes to a ROW");
        IronedQuarrels x = new IronedQuarrels();
        DUE.is("of none", x.longest(0), 0);
        DUE.is("the ROW is there", x.count(6), 1);
        Texts.rowIs(DUE, x, 0);
        x = Texts.heapOf("s0101-");
        DUE.is("of one", x.longest(5), 1);
        Texts.rowIs(DUE, x, 5, 0);
        x = Texts.heapOf(ONE_BEHIND_THE_OTHER);
        DUE.is("of twelve", x.longest(5), 12);
        Texts.rowIs(DUE, x, 5, 0, 1, 2, 3, 4, 5, 6, 7, 8, 9, 10, 11);
        x.lots(12, 1);
        DUE.is("all UNSAID", x.longest(0), 12);
        Texts.rowIs(DUE, x, 0, 0, 1, 2, 3, 4, 5, 6, 7, 8, 9, 10, 11);
    }

    private static void longestOfAlike() {
        DUE.sentence("of alike long ones that which ends with the least number");
        IronedQuarrels x = Texts.heapOf(TWELVE);
        DUE.is("all alone", x.longest(1), 1);
        Texts.rowIs(DUE, x, 1, 0);
        // the one that begins later ends with the lesser number
        x = Texts.heapOf("s0101-s0101-s0101Bs0101A");
        DUE.is("two of two", x.longest(1), 2);
        Texts.rowIs(DUE, x, 1, 1, 2);
        x = Texts.heapOf("s0101-s0101As0101As0101C");
        DUE.is("one of three", x.longest(1), 3);
        Texts.rowIs(DUE, x, 1, 0, 2, 3);
    }

    private static void longestAnew() {
        DUE.sentence("comes to a ROW (anew; ..): how many. BAD.");
        IronedQuarrels x = Texts.heapOf("s0101-s0101A");
        Texts.fill(x, 0, 9, 9, 9, 9);
        DUE.is("longest(0)", x.longest(0), 2);
        Texts.rowIs(DUE, x, 0, 0, 1);
        x.row(5, 0);
        DUE.is("longest(5)", x.longest(5), 2);
        Texts.rowIs(DUE, x, 5, 0, 1);
        DUE.is("longest(-1)", x.longest(-1), BAD);
        DUE.is("longest(6)", x.longest(6), BAD);
        DUE.is("how many ROWS", x.count(6), 2);
    }

    // ---- Terms, 2; promises 25 and 26

    private static void cheapestNoneAndAll() {
        DUE.sentence("AN ORDER unsays all that are SAID, one behind the other");
        IronedQuarrels x = new IronedQuarrels();
        DUE.is("of none", x.cheapest(0), 0);
        DUE.is("the ROW is there", x.count(6), 1);
        Texts.rowIs(DUE, x, 0);
        x = Texts.heapOf("o0101-");
        DUE.is("of one", x.cheapest(0), 1);
        Texts.rowIs(DUE, x, 0, 0);
        x = Texts.heapOf(ONE_BEHIND_THE_OTHER);
        DUE.is("of twelve, one way", x.cheapest(0), 12 + 66);
        Texts.rowIs(DUE, x, 0, 11, 10, 9, 8, 7, 6, 5, 4, 3, 2, 1, 0);
        x = Texts.heapOf("p0109-".repeat(12));
        DUE.is("the greatest COST", x.cheapest(0), 12 * 18 + 66);
        x.lots(12, 1);
        DUE.is("all UNSAID", x.cheapest(0), 0);
        Texts.rowIs(DUE, x, 0);
    }

    private static void cheapestOfAlike() {
        DUE.sentence("ORDERS go by the numbers of their SAYINGS.");
        IronedQuarrels x = Texts.heapOf(TWELVE);
        DUE.is("of all alike", x.cheapest(0), 12 + 66);
        Texts.rowIs(DUE, x, 0, 0, 1, 2, 3, 4, 5, 6, 7, 8, 9, 10, 11);
        // the first ORDER is by its first number, whatever stands behind
        x = Texts.heapOf("s0101-s0101As2301-s4501-");
        DUE.is("of alike", x.cheapest(0), 5);
        Texts.rowIs(DUE, x, 0, 1, 0, 2, 3);
        x = Texts.heapOf("s0101-s2301-s0101As0101Cs4501-");
        DUE.is("of alike", x.cheapest(0), 3 + 3 + 1 + 1);
        Texts.rowIs(DUE, x, 0, 1, 3, 2, 0, 4);
    }

    private static void cheapestAnew() {
        DUE.sentence("The ORDER of least COST comes to a ROW (anew; of alike ones the first): the COST. BAD.");
        IronedQuarrels x = Texts.heapOf("s0101-s0101A");
        Texts.fill(x, 0, 9, 9, 9, 9);
        DUE.is("cheapest(0)", x.cheapest(0), 3);
        Texts.rowIs(DUE, x, 0, 1, 0);
        x.row(5, 0);
        DUE.is("cheapest(5)", x.cheapest(5), 3);
        Texts.rowIs(DUE, x, 5, 1, 0);
        DUE.is("cheapest(-1)", x.cheapest(-1), BAD);
        DUE.is("cheapest(6)", x.cheapest(6), BAD);
        DUE.is("how many ROWS", x.count(6), 2);
        DUE.tells("nothing was UNSAID", x.said(), 3, x, 2);
    }

    private static void cheapestAsEachMayBe() {
        DUE.sentence("each as it MAY BE then; its COST is all PRICES, each as it is when it is UNSAID");
        IronedQuarrels x = Texts.heapOf("s0101-s0101-s0101-y0101-");
        DUE.is("a SORRY at the greatest HEAT", x.cheapest(0), (3 + 2) / 2 + 3 + 2 + 1);
        Texts.rowIs(DUE, x, 0, 3, 0, 1, 2);
        judgeIs(x, 4 + 3 + 2 + (0 + 2) / 2, 4, 0, 1, 2, 3);
        x = Texts.heapOf("y0101-s0101As0101B");
        DUE.is("what ANSWERS goes ahead, but of a SORRY", x.cheapest(0), 2 + 2 + 1);
        Texts.rowIs(DUE, x, 0, 0, 2, 1);
        x.unsay(0);
        DUE.is("the SORRY UNSAID", x.cheapest(0), 2 + 1);
        Texts.rowIs(DUE, x, 0, 2, 1);
    }

    private static void ordersAre(String signs, long want) {
        IronedQuarrels x = Texts.heapOf(signs);
        DUE.shares("orders() of '" + signs + "'", x.orders(), x, want, 1);
    }

    private static void ordersLeastAndMost() {
        DUE.sentence("How many ORDERS there are, told by upper() (lower() is 1): 1.");
        ordersAre("", 1);
        ordersAre("s0101-", 1);
        ordersAre(ONE_BEHIND_THE_OTHER, 1);
        ordersAre(TWELVE, 479001600);
        ordersAre(ONE_BEHIND_THE_OTHER.replace('s', 'y'), 479001600);
        ordersAre("s0101-" + "s0101A".repeat(11), 39916800);
        IronedQuarrels x = Texts.heapOf(TWELVE);
        x.lots(12, 1);
        DUE.shares("all UNSAID", x.orders(), x, 1, 1);
    }

    // ---- Promise 27

    private static void judgeIs(IronedQuarrels x, int want, int gone, int... order) {
        Texts.fill(x, 4, order);
        DUE.tells("judge of " + java.util.Arrays.toString(order), x.judge(4), want, x, gone);
    }

    private static void judgeEmpty() {
        DUE.sentence("Whether an ORDER in a ROW is one: its COST");
        judgeIs(new IronedQuarrels(), 0, 0);
        IronedQuarrels x = Texts.heapOf("s0101-");
        judgeIs(x, NONE, 0);
        judgeIs(x, 1, 1, 0);
        x.unsay(0);
        judgeIs(x, 0, 0);
        judgeIs(x, NONE, 0, 0);
    }

    private static void judgeTooShortOrLong() {
        DUE.sentence("AN ORDER unsays all that are SAID");
        IronedQuarrels x = Texts.heapOf("s0101-s0101-s0101-");
        judgeIs(x, NONE, 2, 0, 1);
        judgeIs(x, 6, 3, 0, 1, 2);
        judgeIs(x, NONE, 3, 0, 1, 2, 0);
        judgeIs(x, NONE, 1, 0, 0, 1, 2);
    }

    private static void judgeAsFarAsItGoes() {
        DUE.sentence("as far as it goes by asked() (how many SAYINGS of it were UNSAID). NONE: it is none (asked() likewise).");
        IronedQuarrels x = Texts.heapOf("s0101-s0101As0101B");
        judgeIs(x, NONE, 0, 0, 1, 2);
        judgeIs(x, NONE, 1, 2, 0, 1);
        judgeIs(x, NONE, 2, 2, 1);
        judgeIs(x, NONE, 2, 2, 1, 1, 0);
        judgeIs(x, 6, 3, 2, 1, 0);
        x.unsay(2);
        judgeIs(x, NONE, 0, 2, 1, 0);
        judgeIs(x, 3, 2, 1, 0);
    }

    private static void judgeFullRow() {
        DUE.sentence("as far as it goes by asked()");
        IronedQuarrels x = Texts.heapOf(TWELVE);
        x.row(4, 40);
        for (int i = 0; i < 40; i++) {
            x.lay(4, i, Math.min(i, 11));
        }
        DUE.tells("judge of forty", x.judge(4), NONE, x, 12);
        judgeIs(x, 78, 12, 11, 10, 9, 8, 7, 6, 5, 4, 3, 2, 1, 0);
        DUE.tells("nothing was UNSAID", x.said(), 4095, x, 4095);
        DUE.is("no DEEDS", x.count(2), 0);
    }

    private static void judgeNumbers() {
        DUE.sentence("UNLIKE: a number that is no SAYING");
        IronedQuarrels x = Texts.heapOf("s0101-s0101-");
        judgeIs(x, 3, 2, 0, 1);
        judgeIs(x, 3, 2, 1, 0);
        for (int none : new int[] {2, -1, NONE, 12, 31, 32, 33, MOST, LEAST}) {
            Texts.fill(x, 4, 0, none);
            DUE.finds("judge of 0, " + none, x.judge(4), x, UNLIKE);
            Texts.fill(x, 4, none);
            DUE.finds("judge of " + none, x.judge(4), x, UNLIKE);
        }
        x = new IronedQuarrels();
        Texts.fill(x, 4, 0);
        DUE.finds("judge of 0, no SAYINGS", x.judge(4), x, UNLIKE);
        x = Texts.heapOf(TWELVE);
        judgeIs(x, NONE, 1, 11);
        Texts.fill(x, 4, 12);
        DUE.finds("judge of 12", x.judge(4), x, UNLIKE);
    }

    private static void judgeUnlikeAnywhere() {
        DUE.sentence("BAD; NOTHING; UNLIKE");
        IronedQuarrels x = Texts.heapOf("s0101-s0101A");
        x.row(4, 40);
        x.lay(4, 39, 2);
        DUE.finds("UNLIKE in the last place, no ORDER from the first on", x.judge(4), x, UNLIKE);
        x.lay(4, 39, 1);
        DUE.tells("no ORDER from the first on", x.judge(4), NONE, x, 0);
        DUE.finds("judge of a ROW that is missing", x.judge(0), x, NOTHING);
        DUE.is("judge(6)", x.judge(6), BAD);
        DUE.is("judge(-1)", x.judge(-1), BAD);
    }

    // ---- Promise 28

    private static void lastNumbers() {
        DUE.sentence("Chances that a SAYING that is SAID is UNSAID last .. BAD");
        DUE.is("last(0) of none", new IronedQuarrels().last(0), BAD);
        IronedQuarrels x = Texts.heapOf(TWELVE);
        for (int i : new int[] {-1, 12, 32, MOST, LEAST}) {
            DUE.is("last(" + i + ")", x.last(i), BAD);
        }
        DUE.shares("last(0)", x.last(0), x, 1, 12);
        DUE.shares("last(11)", x.last(11), x, 1, 12);
    }

    private static void lastNotSaid() {
        DUE.sentence("STATE: it is not SAID");
        IronedQuarrels x = Texts.heapOf("s0101-s0101-");
        DUE.shares("SAID", x.last(1), x, 1, 2);
        x.unsay(1);
        DUE.is("UNSAID", x.last(1), STATE);
        DUE.shares("the other one", x.last(0), x, 1, 1);
        x.undo(0);
        DUE.shares("SAID again", x.last(1), x, 1, 2);
    }

    private static void lastNeverAndAlways() {
        DUE.sentence("in lowest terms, the lower number above 0 (0 by 1)");
        IronedQuarrels x = Texts.heapOf(ONE_BEHIND_THE_OTHER);
        DUE.shares("always", x.last(0), x, 1, 1);
        DUE.shares("never", x.last(11), x, 0, 1);
        DUE.shares("never", x.last(1), x, 0, 1);
        x = Texts.heapOf("s0101-s0101As0101As0101As0101-s0101E");
        DUE.shares("4 of 6", x.last(0), x, 2, 3);
        DUE.shares("2 of 6", x.last(4), x, 1, 3);
        DUE.sentence("a SORRY, whatever ANSWERS it");
        x = Texts.heapOf("y0101-s0101As0101B");
        DUE.shares("a SORRY", x.last(0), x, 1, 3);
        DUE.shares("what ANSWERS a SORRY", x.last(1), x, 2, 3);
        DUE.shares("what ANSWERS that", x.last(2), x, 0, 1);
    }
}
