/** Promises 35 and 36: colour, lots. */
public final class ColoursLotsTest {
    private static final int BAD = IronedQuarrels.BAD;
    private static final int MOST = Integer.MAX_VALUE, LEAST = Integer.MIN_VALUE;
    private static final Due DUE = new Due();

    public static void main(String[] args) {
        colour();
        colourRefused();
        lots();
        lotsAsTold();
        lotsRefused();
        DUE.finish("ColoursLotsTest");
    }

    private static void colour() {
        IronedQuarrels x = Texts.heapOf("s0111-s0121As0131As0141Bc0151-c0101Ec0101F");
        DUE.is("no hearing", x.colour(0, 0), 1);
        DUE.is("one", x.colour(0, 1), 3);
        DUE.is("two", x.colour(0, 2), 5);
        DUE.is("three, modulo 6", x.colour(0, 3), 1);
        DUE.is("twenty", x.colour(0, 20), 41 % 6);
        DUE.is("none ANSWERS", x.colour(2, 20), 3);
        DUE.is("one ANSWERS", x.colour(1, 3), 5);
        DUE.is("a COLOUR, answered", x.colour(4, 1), 2);
        DUE.is("a COLOUR, answered, twenty", x.colour(4, 20), (5 + 60) % 6);
        DUE.is("a COLOUR, not answered", x.colour(6, 2), 4);
        x.unsay(2);
        DUE.is("one of two that ANSWER is UNSAID", x.colour(0, 2), 3);
        x.unsay(6);
        DUE.is("a COLOUR, none ANSWERS", x.colour(5, 1), 2);
        DUE.is("a COLOUR that is UNSAID", x.colour(6, 1), 2);
        DUE.is("its TOPIC stays", x.saying(6, 3), 1);
        DUE.is("its TOPIC stays", x.asked(), 0);
        DUE.is("an OLD one is no COLOUR", Texts.heapOf("o0141-").colour(0, 5), 4);
    }

    private static void colourRefused() {
        IronedQuarrels x = Texts.heapOf("s0101-");
        DUE.is("colour(-1, 0)", x.colour(-1, 0), BAD);
        DUE.is("colour(1, 0)", x.colour(1, 0), BAD);
        DUE.is("colour(12, 0)", x.colour(12, 0), BAD);
        DUE.is("colour(0, -1)", x.colour(0, -1), BAD);
        DUE.is("colour(0, 21)", x.colour(0, 21), BAD);
        DUE.is("colour(0, 20)", x.colour(0, 20), 0);
        DUE.is("colour(most, most)", x.colour(MOST, MOST), BAD);
    }

    private static void lots() {
        IronedQuarrels x = Texts.heapOf("s0101-s2302-s4504-");
        // 48271 is 1 modulo 3, 182605794 is 0 modulo 2
        DUE.is("lots(1, 1)", x.lots(1, 1), 2);
        DUE.is("what is SAID", x.said(), 5);
        DUE.is("a DEED", x.count(2), 1);
        DUE.is("undone as any", x.undo(0), 1);
        DUE.is("lots(2, 1)", x.lots(2, 1), 3);
        DUE.is("what is SAID", x.said(), 4);
        DUE.is("the latest DEED first", x.undo(1), 1);
        DUE.is("what is SAID", x.said(), 5);
        x.undo(0);
        DUE.is("till none is left", x.lots(12, 1), 7);
        DUE.is("what is SAID", x.said(), 0);
        DUE.is("DEEDS", x.count(2), 3);
        DUE.is("none left", x.lots(1, 5), 0);
        DUE.is("DEEDS", x.count(2), 3);
        x.undo(0);
        // 2147435376 is 0 modulo 3
        DUE.is("the greatest seed", x.lots(1, 2147483646), 1);
        DUE.is("what is SAID", x.said(), 6);
        DUE.is("lots without SAYINGS", new IronedQuarrels().lots(12, 7), 0);
        DUE.is("lots tells not by asked()", new IronedQuarrels().asked(), 0);
    }

    private static void lotsAsTold() {
        int[] seeds = {1, 2, 3, 77, 31337, 65536, 1000000007, 2147483645, 2147483646};
        for (int seed : seeds) {
            IronedQuarrels x = Texts.heapOf("y0113-s1024Ap2035Ao0141Bc1259-s2131Ey1202Ft2313Es3124H");
            IronedQuarrels y = Texts.heapOf("y0113-s1024Ap2035Ao0141Bc1259-s2131Ey1202Ft2313Es3124H");
            long number = seed;
            int prices = 0;
            for (int turn = 0; turn < 9; turn++) {
                y.said();
                int free = y.asked();
                number = number * 48271 % 2147483647;
                int skip = (int) (number % Integer.bitCount(free));
                for (int k = 0; k < skip; k++) {
                    free &= free - 1;
                }
                prices += y.unsay(Integer.numberOfTrailingZeros(free));
                int mine = x.lots(turn + 1, seed);
                DUE.is("lots(" + (turn + 1) + ", " + seed + ")", mine, prices);
                DUE.is("what is SAID behind it", x.said(), y.said());
                x.undo(0);
            }
        }
    }

    private static void lotsRefused() {
        IronedQuarrels x = Texts.heapOf("s0101-");
        DUE.is("lots(0, 1)", x.lots(0, 1), BAD);
        DUE.is("lots(-1, 1)", x.lots(-1, 1), BAD);
        DUE.is("lots(13, 1)", x.lots(13, 1), BAD);
        DUE.is("lots(least, 1)", x.lots(LEAST, 1), BAD);
        DUE.is("lots(1, 0)", x.lots(1, 0), BAD);
        DUE.is("lots(1, -1)", x.lots(1, -1), BAD);
        DUE.is("lots(1, 2147483647)", x.lots(1, MOST), BAD);
        DUE.is("nothing was UNSAID", x.said(), 1);
        DUE.is("lots(12, 1)", x.lots(12, 1), 1);
    }
}
