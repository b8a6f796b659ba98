/** Promises 20 to 24: leans, feeds, first, bundles, longest. */
public final class LeaningTest {
    private static final int BAD = IronedQuarrels.BAD;
    private static final int[] WRONG = {-1, 7, 12, Integer.MAX_VALUE, Integer.MIN_VALUE, IronedQuarrels.NONE};
    /** 1, 2, 4 LEAN on 0; 4 on 2; 5 on 3, 6 on 5. */
    private static final String TREES = "y0101-s0101As0101As0101-s0101Cy0101Ds0101F";
    private static final Due DUE = new Due();

    public static void main(String[] args) {
        leansAndFeeds();
        first();
        bundles();
        longest();
        longestRefused();
        DUE.finish("LeaningTest");
    }

    private static void leansAndFeeds() {
        IronedQuarrels x = Texts.heapOf(TREES);
        int[] leans = {0, 1, 1, 0, 1 + 4, 8, 8 + 32};
        int[] feeds = {2 + 4 + 16, 0, 16, 32 + 64, 0, 64, 0};
        for (int round = 0; round < 2; round++) {
            for (int i = 0; i < 7; i++) {
                DUE.is("leans(" + i + ")", x.leans(i), leans[i]);
                DUE.is("feeds(" + i + ")", x.feeds(i), feeds[i]);
            }
            // SAID or not
            x.unsay(5);
            x.unsay(6);
            x.unsay(4);
            x.unsay(0);
        }
        for (int i : WRONG) {
            DUE.is("leans(" + i + ")", x.leans(i), BAD);
            DUE.is("feeds(" + i + ")", x.feeds(i), BAD);
        }
        DUE.is("none told by asked()", x.asked(), 0);
    }

    private static void first() {
        IronedQuarrels x = Texts.heapOf(TREES);
        int[] first = {0, 0, 0, 3, 0, 3, 3};
        int[] many = {0, 1, 1, 0, 2, 1, 2};
        for (int round = 0; round < 2; round++) {
            for (int i = 0; i < 7; i++) {
                DUE.is("first(" + i + ")", x.first(i), first[i]);
                DUE.is("on how many", x.asked(), many[i]);
            }
            x.unsay(0);
            x.unsay(5);
        }
        for (int i : WRONG) {
            DUE.is("first(" + i + ")", x.first(i), BAD);
        }
        DUE.is("asked() stays", x.asked(), 2);
    }

    private static void bundlesAre(IronedQuarrels x, int many, int bits) {
        DUE.is("bundles()", x.bundles(), many);
        DUE.is("which", x.asked(), bits);
    }

    private static void bundles() {
        IronedQuarrels x = new IronedQuarrels();
        bundlesAre(x, 0, 0);
        bundlesAre(Texts.heapOf("s0101-"), 1, 1);
        x = Texts.heapOf(TREES);
        bundlesAre(x, 2, 9);
        x.unsay(0);
        bundlesAre(x, 2, 9);
        x.unsay(4);
        x.unsay(2);
        bundlesAre(x, 2, 9);
        x.unsay(1);
        bundlesAre(x, 1, 8);
        x.say(0, 10, 1, 4);
        bundlesAre(x, 2, 9);
        x.say(0, 10, 1, IronedQuarrels.NONE);
        bundlesAre(x, 3, 9 + 256);
    }

    private static void longest() {
        IronedQuarrels x = Texts.heapOf(TREES);
        x.row(5, 40);
        DUE.is("longest(5)", x.longest(5), 3);
        Texts.rowIs(DUE, x, 5, 0, 2, 4);
        x.unsay(4);
        x.unsay(5);
        DUE.is("SAID or not", x.longest(0), 3);
        Texts.rowIs(DUE, x, 0, 0, 2, 4);
        x.say(0, 10, 1, 6);
        DUE.is("a longer one", x.longest(0), 4);
        Texts.rowIs(DUE, x, 0, 3, 5, 6, 7);
        x = Texts.heapOf("s0101-s0101-");
        DUE.is("all alone", x.longest(2), 1);
        Texts.rowIs(DUE, x, 2, 0);
        x = new IronedQuarrels();
        DUE.is("none", x.longest(2), 0);
        Texts.rowIs(DUE, x, 2);
        for (int i = 0; i < 12; i++) {
            x.say(0, 10, 1, i == 0 ? IronedQuarrels.NONE : i - 1);
        }
        DUE.is("all in one", x.longest(2), 12);
        Texts.rowIs(DUE, x, 2, 0, 1, 2, 3, 4, 5, 6, 7, 8, 9, 10, 11);
    }

    private static void longestRefused() {
        IronedQuarrels x = Texts.heapOf(TREES);
        DUE.is("longest(-1)", x.longest(-1), BAD);
        DUE.is("longest(6)", x.longest(6), BAD);
        DUE.is("no ROW came", x.count(6), 0);
    }
}
