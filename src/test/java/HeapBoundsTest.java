/** Each sentence of "Terms", 1, and of promises 10 to 19 that names a bound of HEAPS and DEEDS. */
public final class HeapBoundsTest {
    private static final int BAD = IronedQuarrels.BAD, STATE = IronedQuarrels.STATE, NONE = IronedQuarrels.NONE;
    private static final int NOTHING = 1;
    private static final int MOST = Integer.MAX_VALUE, LEAST = Integer.MIN_VALUE;
    private static final String TWELVE = "s0101-".repeat(12);
    private static final Due DUE = new Due();

    public static void main(String[] args) {
        blanksAreAsManyAsWanted();
        blanksWithinItems();
        itemsNoneOrTwelve();
        letters();
        persons();
        personsUnlike();
        topics();
        weights();
        answersOneThatIsThere();
        endsTooEarly();
        firstPlace();
        heapIsAnew();
        heapWithFault();
        allAreSaidAtFirst();
        heatOfNoneAndAll();
        pricesByKind();
        pricesAtTheEnds();
        sayingNumbers();
        sayingFacts();
        sayingUnsaid();
        DUE.finish("HeapBoundsTest");
    }

    /** The FAULT of a TEXT, and what heap() answers by it. */
    private static void faultIs(String signs, int want, int many) {
        IronedQuarrels x = new IronedQuarrels();
        Texts.write(x, 3, signs);
        DUE.is("fault of '" + signs + "'", x.fault(3), want);
        DUE.is("heap of '" + signs + "'", x.heap(3), want == NONE ? many : STATE);
        DUE.is("SAYINGS of '" + signs + "'", x.count(0), want == NONE ? many : 0);
    }

    private static void good(String signs, int many) {
        faultIs(signs, NONE, many);
    }

    private static void wrongAt(int place, String signs) {
        faultIs(signs, place, 0);
    }

    // ---- Terms, 1: the language; promises 10 and 11

    private static void blanksAreAsManyAsWanted() {
        DUE.sentence("blanks (32) ahead, between, behind as many as wanted");
        good(" s0101-", 1);
        good(" ".repeat(74) + "s0101-", 1);
        good("s0101- s0101-", 2);
        good("s0101-s0101-", 2);
        good("s0101-" + " ".repeat(68) + "s0101-", 2);
        good("s0101- ", 1);
        good("s0101-" + " ".repeat(74), 1);
        good(" ".repeat(80), 0);
        wrongAt(0, "\ts0101-");
        wrongAt(6, "s0101-\0");
        wrongAt(6, "s0101-\ns0101-");
        wrongAt(0, "!");
        wrongAt(0, "\37");
    }

    private static void blanksWithinItems() {
        DUE.sentence("none within items");
        good("s0101-", 1);
        for (int place = 1; place < 6; place++) {
            wrongAt(place, "s0101-".substring(0, place) + " " + "s0101-".substring(place));
            wrongAt(6 + place, "s0101-" + "s0101-".substring(0, place) + " ");
        }
    }

    private static void itemsNoneOrTwelve() {
        DUE.sentence("items are SAYINGS 0, 1, .. (none, or 12 at most; as they come) .. a thirteenth one: its letter");
        good("", 0);
        good(" ", 0);
        good("s0101-", 1);
        good("s0101-".repeat(11), 11);
        good(TWELVE, 12);
        good(TWELVE + " ".repeat(8), 12);
        wrongAt(72, TWELVE + "s0101-");
        wrongAt(74, TWELVE + "  s0101-");
        wrongAt(72, TWELVE + "s");
        wrongAt(79, TWELVE + " ".repeat(7) + "y");
        // also one that goes wrong later on
        wrongAt(72, TWELVE + "s9");
        wrongAt(72, TWELVE + "?");
    }

    private static void letters() {
        DUE.sentence("a letter, a figure, a sign that is none such, .. its place");
        for (int sign = 0; sign < 128; sign++) {
            if ("sotpyc".indexOf(sign) >= 0) {
                good((char) sign + "0101-", 1);
            } else if (sign != ' ') {
                wrongAt(0, (char) sign + "0101-");
            }
        }
        IronedQuarrels x = Texts.heapOf("s0101-o0101-t0101-p0101-y0101-c0101-");
        for (int i = 0; i < 6; i++) {
            DUE.tells("the KIND of letter " + i, x.saying(i, 0), x, i);
        }
        Texts.write(x, 0, "s0101-");
        for (int high : new int[] {115 + 128, 255, 128, 115 - 128}) {
            x.put(0, 0, high);
            DUE.is("fault by a letter of byte " + (byte) high, x.fault(0), 0);
        }
    }

    private static void persons() {
        DUE.sentence("WHO, TO WHOM (PERSONS 0 .. 5, one figure each, ..)");
        for (char figure : "012345".toCharArray()) {
            good("s" + figure + (figure == '0' ? '1' : '0') + "01-", 1);
            good("s" + (figure == '0' ? '1' : '0') + figure + "01-", 1);
        }
        for (char figure : "/6789:-A ".toCharArray()) {
            wrongAt(1, "s" + figure + "101-");
            wrongAt(2, "s1" + figure + "01-");
        }
        IronedQuarrels x = Texts.heapOf("s0501-s5001-");
        DUE.tells("WHO, least", x.saying(0, 1), x, 0);
        DUE.tells("TO WHOM, greatest", x.saying(0, 2), x, 5);
        DUE.tells("WHO, greatest", x.saying(1, 1), x, 5);
        DUE.tells("TO WHOM, least", x.saying(1, 2), x, 0);
    }

    private static void personsUnlike() {
        DUE.sentence("the same PERSON twice, .. its place");
        for (int p = 0; p < 6; p++) {
            wrongAt(2, "s" + p + p + "01-");
            wrongAt(8, "s0101-s" + p + p);
            for (int q = 0; q < 6; q++) {
                if (p != q) {
                    good("s" + p + q + "01-", 1);
                }
            }
        }
    }

    private static void topics() {
        DUE.sentence("the TOPIC (0 .. 5)");
        for (char figure : "012345".toCharArray()) {
            good("s01" + figure + "1-", 1);
        }
        for (char figure : "/6789:-A ".toCharArray()) {
            wrongAt(3, "s01" + figure + "1-");
        }
        IronedQuarrels x = Texts.heapOf("s0101-s0151-");
        DUE.tells("the least", x.saying(0, 3), x, 0);
        DUE.tells("the greatest", x.saying(1, 3), x, 5);
    }

    private static void weights() {
        DUE.sentence("the WEIGHT (1 .. 9)");
        for (char figure : "123456789".toCharArray()) {
            good("s010" + figure + "-", 1);
        }
        for (char figure : "0/:-A ".toCharArray()) {
            wrongAt(4, "s010" + figure + "-");
        }
        IronedQuarrels x = Texts.heapOf("s0101-s0109-");
        DUE.tells("the least", x.saying(0, 4), x, 1);
        DUE.tells("the greatest", x.saying(1, 4), x, 9);
    }

    private static void answersOneThatIsThere() {
        DUE.sentence("- (45) none, or that one's letter: A (65) the first one, B, .., one that is there already");
        for (int there = 0; there < 12; there++) {
            String ahead = "s0101-".repeat(there);
            int place = 6 * there + 5;
            good(ahead + "s0101-", there + 1);
            if (there > 0) {
                good(ahead + "s0101A", there + 1);
                good(ahead + "s0101" + (char) ('A' + there - 1), there + 1);
            }
            // itself is not there yet, nor is the next one
            wrongAt(place, ahead + "s0101" + (char) ('A' + there));
            wrongAt(place, ahead + "s0101" + (char) ('A' + there + 1));
            for (char sign : "@aZ1 +,.s".toCharArray()) {
                wrongAt(place, ahead + "s0101" + sign);
            }
        }
        IronedQuarrels x = Texts.heapOf("s0101-".repeat(11) + "s0101K");
        DUE.tells("ANSWERS of the last one", x.saying(11, 5), x, 10);
        DUE.tells("ANSWERS of the first one", x.saying(0, 5), x, NONE);
    }

    private static void endsTooEarly() {
        DUE.sentence("the TEXT's size, if its end comes too early");
        String item = "y2345A";
        for (int size = 1; size < 6; size++) {
            wrongAt(6 + size, "s0101-" + item.substring(0, size));
            wrongAt(9 + size, "s0101-   " + item.substring(0, size));
        }
        good("s0101-" + item, 2);
        String full = " ".repeat(8) + "s0101-".repeat(11);
        wrongAt(79, full + "s0101");
        wrongAt(80, full.replaceFirst("^ {8}", " ".repeat(9)) + "s0101");
        good(full + "s0101-", 12);
    }

    private static void firstPlace() {
        DUE.sentence("A FAULT is the first place at which it can't go on so");
        wrongAt(0, "?99??");
        wrongAt(1, "s9999?");
        wrongAt(2, "s0099?");
        wrongAt(3, "s0199?");
        wrongAt(4, "s0100?");
        wrongAt(5, "s0101?");
        wrongAt(6, "s0101-?s9");
        DUE.sentence("A FAULT of a TEXT; NONE: there is none.");
        good("s0101-", 1);
    }

    private static void heapIsAnew() {
        DUE.sentence("A HEAP by a TEXT (anew: all SAID, no DEEDS; kept HEAPS go): how many SAYINGS.");
        IronedQuarrels x = Texts.heapOf("s0101-s0101-");
        x.unsay(0);
        for (int k = 0; k < 3; k++) {
            x.keep(k);
        }
        DUE.is("heap(0)", x.heap(0), 2);
        DUE.tells("said()", x.said(), 3, x, 3);
        DUE.is("DEEDS", x.count(2), 0);
        DUE.is("kept HEAPS", x.count(8), 0);
        for (int k = 0; k < 3; k++) {
            DUE.finds("on(" + k + ")", x.on(k), x, NOTHING);
        }
        x.keep(1);
        Texts.write(x, 1, "");
        DUE.is("heap of nothing", x.heap(1), 0);
        DUE.is("SAYINGS", x.count(0), 0);
        DUE.tells("none SAID", x.said(), 0, x, 0);
        DUE.is("kept HEAPS", x.count(8), 0);
        Texts.write(x, 1, TWELVE);
        DUE.is("heap of twelve", x.heap(1), 12);
        DUE.is("SAYINGS", x.count(0), 12);
        DUE.tells("all SAID", x.said(), 4095, x, 4095);
        Texts.write(x, 1, "s0101-");
        DUE.is("heap of one", x.heap(1), 1);
        DUE.tells("one SAID", x.said(), 1, x, 1);
        DUE.is("another one that comes", x.say(0, 10, 1, 0), 1);
        DUE.tells("two SAID", x.said(), 3, x, 2);
    }

    private static void heapWithFault() {
        DUE.sentence("BAD; NOTHING; STATE: a FAULT. (STATE behind NOTHING.)");
        IronedQuarrels x = Texts.heapOf("s0101-s0101-");
        x.unsay(1);
        x.keep(0);
        Texts.write(x, 1, TWELVE + "x");
        DUE.is("heap with a FAULT at its end", x.heap(1), STATE);
        DUE.is("no FINDING", x.finding(), 0);
        DUE.tells("said() as it was", x.said(), 1, x, 1);
        DUE.is("DEEDS as they were", x.count(2), 1);
        DUE.is("kept as it was", x.on(0), 1);
        DUE.finds("heap of a TEXT that is missing", x.heap(2), x, NOTHING);
        DUE.is("heap of none", x.heap(4), BAD);
        x.put(1, 72, 32);
        DUE.is("heap without the FAULT", x.heap(1), 12);
    }

    private static void allAreSaidAtFirst() {
        DUE.sentence("All are SAID at first.");
        IronedQuarrels x = Texts.heapOf(TWELVE);
        DUE.tells("said()", x.said(), 4095, x, 4095);
        DUE.is("how many", x.count(1), 12);
    }

    // ---- Terms, 1: PRICES; promise 12

    private static void priceIs(IronedQuarrels x, int i, int want) {
        DUE.tells("the PRICE of " + i, x.saying(i, 7), x, want);
    }

    private static void heatOfNoneAndAll() {
        DUE.sentence("HEAT of a SAYING is how many others that are SAID are BETWEEN its two.");
        priceIs(Texts.heapOf("s0101-s0201-s2101-s2301-"), 0, 1);
        IronedQuarrels x = Texts.heapOf("s0101-s1001-".repeat(6));
        priceIs(x, 0, 11 + 1);
        priceIs(x, 11, 11 + 1);
        x.unsay(3);
        priceIs(x, 0, 10 + 1);
        DUE.sentence("also UNSAID: as if it were SAID");
        priceIs(x, 3, 11 + 1);
        x.lots(12, 1);
        priceIs(x, 3, 1);
        priceIs(x, 0, 1);
    }

    private static void pricesByKind() {
        DUE.sentence("Its PRICE is HEAT and its WEIGHT; of an OLD one HEAT and 1; of a COLOUR that, and its TOPIC;"
                + " of a PRIDE HEAT and twice its WEIGHT; of a SORRY half of that, cut.");
        String each = "s0139-o0139-t0139-p0139-y0139-c0139-";
        IronedQuarrels x = Texts.heapOf(each);
        int[] heated = {5 + 9, 5 + 1, 5 + 9, 5 + 18, (5 + 18) / 2, 5 + 1 + 3};
        for (int i = 0; i < 6; i++) {
            priceIs(x, i, heated[i]);
        }
        x.lots(12, 1);
        int[] cold = {9, 1, 9, 18, 9, 4};
        for (int i = 0; i < 6; i++) {
            priceIs(x, i, cold[i]);
        }
    }

    private static void pricesAtTheEnds() {
        DUE.sentence("of a SORRY half of that, cut");
        String rest = "s0101-".repeat(11);
        priceIs(Texts.heapOf("y0101-"), 0, 1);
        priceIs(Texts.heapOf("y0101-s0101-"), 0, 1);
        priceIs(Texts.heapOf("y0101-s0101-s0101-"), 0, 2);
        priceIs(Texts.heapOf("y0109-" + rest), 0, (11 + 18) / 2);
        DUE.sentence("of a COLOUR that, and its TOPIC");
        priceIs(Texts.heapOf("c0109-"), 0, 1);
        priceIs(Texts.heapOf("c0159-"), 0, 6);
        priceIs(Texts.heapOf("c0159-" + rest), 0, 17);
        DUE.sentence("of an OLD one HEAT and 1");
        priceIs(Texts.heapOf("o0159-"), 0, 1);
        priceIs(Texts.heapOf("o0159-" + rest), 0, 12);
        DUE.sentence("of a PRIDE HEAT and twice its WEIGHT");
        priceIs(Texts.heapOf("p0151-"), 0, 2);
        priceIs(Texts.heapOf("p0159-" + rest), 0, 29);
    }

    private static void sayingNumbers() {
        DUE.sentence("Of a SAYING: 0 the KIND, .. 7 its PRICE now .. BAD.");
        IronedQuarrels x = new IronedQuarrels();
        DUE.is("saying(0, 0) of none", x.saying(0, 0), BAD);
        x = Texts.heapOf("s0101-s0101-");
        DUE.is("saying(0, 0)", x.saying(0, 0), 1);
        DUE.is("saying(-1, 0)", x.saying(-1, 0), BAD);
        DUE.is("saying(1, 7)", x.saying(1, 7), 1);
        DUE.is("saying(2, 7)", x.saying(2, 7), BAD);
        DUE.is("saying(1, 8)", x.saying(1, 8), BAD);
        DUE.is("saying(0, -1)", x.saying(0, -1), BAD);
        DUE.is("saying(most, 0)", x.saying(MOST, 0), BAD);
        DUE.is("saying(0, least)", x.saying(0, LEAST), BAD);
        x = Texts.heapOf(TWELVE);
        DUE.is("saying(11, 0)", x.saying(11, 0), 1);
        DUE.is("saying(12, 0)", x.saying(12, 0), BAD);
    }

    private static void sayingFacts() {
        DUE.sentence("0 the KIND, 1 WHO, 2 TO WHOM, 3 the TOPIC, 4 the WEIGHT, 5 which it ANSWERS (NONE: none),"
                + " 6 whether it is SAID (1, 0), 7 its PRICE now");
        IronedQuarrels x = Texts.heapOf("s5401-c0559A");
        int[] first = {0, 5, 4, 0, 1, NONE, 1, 1};
        int[] other = {5, 0, 5, 5, 9, 0, 1, 6};
        for (int what = 0; what < 8; what++) {
            DUE.tells("saying(0, " + what + ")", x.saying(0, what), x, first[what]);
            DUE.tells("saying(1, " + what + ")", x.saying(1, what), x, other[what]);
        }
    }

    private static void sayingUnsaid() {
        DUE.sentence("6 whether it is SAID (1, 0)");
        IronedQuarrels x = Texts.heapOf("s0101-s0101-");
        DUE.tells("SAID", x.saying(1, 6), x, 1);
        x.unsay(1);
        DUE.tells("UNSAID", x.saying(1, 6), x, 0);
        DUE.tells("the other one", x.saying(0, 6), x, 1);
        x.undo(0);
        DUE.tells("SAID again", x.saying(1, 6), x, 1);
    }
}
