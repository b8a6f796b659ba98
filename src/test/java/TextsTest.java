/** Promises 8 to 13: text, put, fault, heap, saying, mark. */
public final class TextsTest {
    private static final int BAD = IronedQuarrels.BAD, FINDING = IronedQuarrels.FINDING;
    private static final int STATE = IronedQuarrels.STATE, NONE = IronedQuarrels.NONE;
    private static final Due DUE = new Due();

    public static void main(String[] args) {
        text();
        put();
        faultPlaces();
        faultEnds();
        faultAnswers();
        faultRefused();
        heap();
        heapRefused();
        saying();
        sayingPrices();
        markOld();
        markOthers();
        markRefused();
        DUE.finish("TextsTest");
    }

    private static void text() {
        IronedQuarrels x = new IronedQuarrels();
        DUE.is("text(-1, 0)", x.text(-1, 0), BAD);
        DUE.is("text(4, 0)", x.text(4, 0), BAD);
        DUE.is("text(0, 81)", x.text(0, 81), BAD);
        DUE.is("text(4, -1) is BAD ahead of SIZE", x.text(4, -1), BAD);
        DUE.finds("text(0, -1)", x.text(0, -1), x, 5);
        DUE.finds("text(0, least)", x.text(0, Integer.MIN_VALUE), x, 5);
        DUE.is("no TEXT", x.count(7), 0);
        DUE.is("text(3, 80)", x.text(3, 80), 80);
        DUE.is("text(0, 0)", x.text(0, 0), 0);
        DUE.is("two TEXTS", x.count(7), 2);
        for (int i = 0; i < 80; i++) {
            DUE.is("a blank", x.put(3, i, 0), 1032);
        }
        DUE.is("anew", x.text(3, 2), 2);
        DUE.is("a blank again", x.put(3, 1, 1), 1032);
        DUE.finds("put(3, 2, 0)", x.put(3, 2, 0), x, 2);
    }

    private static void put() {
        IronedQuarrels x = new IronedQuarrels();
        DUE.is("put(-1, 0, 0)", x.put(-1, 0, 0), BAD);
        DUE.is("put(4, 0, 0)", x.put(4, 0, 0), BAD);
        DUE.finds("put(0, 0, 0)", x.put(0, 0, 0), x, 1);
        x.text(0, 1);
        DUE.finds("put(0, 1, 0)", x.put(0, 1, 0), x, 2);
        DUE.finds("put(0, -1, 0)", x.put(0, -1, 0), x, 2);
        DUE.is("blank ahead", x.put(0, 0, 127), 1032);
        DUE.is("127 ahead", x.put(0, 0, 128), 1127);
        DUE.is("128 is cut to -128", x.put(0, 0, 255), 872);
        DUE.is("255 is cut to -1", x.put(0, 0, 256), 999);
        DUE.is("256 is cut to 0", x.put(0, 0, -129), 1000);
        DUE.is("-129 is cut to 127", x.put(0, 0, Integer.MAX_VALUE), 1127);
        DUE.is("most is cut to -1", x.put(0, 0, Integer.MIN_VALUE), 999);
        DUE.is("least is cut to 0", x.put(0, 0, 0), 1000);
    }

    private static void faultIs(String signs, int want) {
        IronedQuarrels x = new IronedQuarrels();
        Texts.write(x, 1, signs);
        long ahead = x.digest();
        DUE.is("fault of '" + signs + "'", x.fault(1), want);
        DUE.is("nothing changed by fault of '" + signs + "'", x.digest(), ahead);
        int many = 0;
        for (int i = 0; i < signs.length(); i++) {
            many += Character.isLowerCase(signs.charAt(i)) ? 1 : 0;
        }
        DUE.is("heap of '" + signs + "'", x.heap(1), want == NONE ? many : STATE);
    }

    private static void faultPlaces() {
        for (char letter : "sotpyc".toCharArray()) {
            faultIs(letter + "0101-", NONE);
        }
        for (char letter : "abSOTPYC-0A".toCharArray()) {
            faultIs(letter + "0101-", 0);
            faultIs("s0101-" + letter + "0101-", 6);
        }
        faultIs("s6101-", 1);
        faultIs("s/101-", 1);
        faultIs("s 101-", 1);
        faultIs("s5001-", NONE);
        faultIs("s0601-", 2);
        faultIs("s0001-", 2);
        faultIs("s5501-", 2);
        faultIs("s0551-", NONE);
        faultIs("s0161-", 3);
        faultIs("s01x1-", 3);
        faultIs("s0100-", 4);
        faultIs("s010:-", 4);
        faultIs("s0109-", NONE);
        faultIs("s0109 -", 5);
        faultIs("s0101-s0101-s0171-", 15);
    }

    private static void faultEnds() {
        faultIs("", NONE);
        faultIs("   ", NONE);
        faultIs("  s0101-  ", NONE);
        faultIs("s0101- s0101-", NONE);
        faultIs("s0101-s0101-", NONE);
        String whole = "  s0101-y1012A";
        for (int size = 3; size < whole.length(); size++) {
            faultIs(whole.substring(0, size), size == 8 ? NONE : size);
        }
        String twelve = "s0101-".repeat(12);
        faultIs(twelve, NONE);
        faultIs(twelve + "        ", NONE);
        faultIs(twelve + "s", 72);
        faultIs(twelve + "s0101-", 72);
        faultIs(twelve + "  s0101-", 74);
        faultIs(twelve + "    ?", 76);
        faultIs(twelve + "s6", 72);
    }

    private static void faultAnswers() {
        faultIs("s0101A", 5);
        faultIs("s0101-s0101A", NONE);
        faultIs("s0101-s0101B", 11);
        faultIs("s0101-s0101@", 11);
        faultIs("s0101-s0101a", 11);
        faultIs("s0101-s01018", 11);
        faultIs("s01018", 5);
        faultIs("s0101 ", 5);
        faultIs("s0101-".repeat(11) + "s0101K", NONE);
        faultIs("s0101-".repeat(11) + "s0101L", 71);
        // a byte below 0 is no sign
        IronedQuarrels x = Texts.heapOf("");
        Texts.write(x, 0, "s0101-");
        x.put(0, 0, 's' - 256);
        DUE.is("'s' as a byte", x.fault(0), NONE);
        x.put(0, 0, 's' + 128);
        DUE.is("another byte", x.fault(0), 0);
    }

    private static void faultRefused() {
        IronedQuarrels x = new IronedQuarrels();
        DUE.is("fault(-1)", x.fault(-1), BAD);
        DUE.is("fault(4)", x.fault(4), BAD);
        DUE.finds("fault(3)", x.fault(3), x, 1);
    }

    private static void heap() {
        IronedQuarrels x = new IronedQuarrels();
        Texts.write(x, 2, "s0109- o1028A");
        Texts.write(x, 3, "y0115-");
        DUE.is("heap(2)", x.heap(2), 2);
        DUE.is("all SAID", x.said(), 3);
        DUE.is("unsay(1)", x.unsay(1), 2);
        DUE.is("say", x.say(0, 10, 1, 1), 2);
        DUE.is("keep(0)", x.keep(0), 2);
        DUE.is("keep(2)", x.keep(2), 2);
        DUE.is("two kept", x.count(8), 2);
        DUE.is("heap(3)", x.heap(3), 1);
        DUE.is("no DEEDS", x.count(2), 0);
        DUE.is("none kept", x.count(8), 0);
        DUE.finds("on(0)", x.on(0), x, 1);
        DUE.finds("on(2)", x.on(2), x, 1);
        DUE.is("all SAID", x.said(), 1);
        x.unsay(0);
        x.text(0, 0);
        DUE.is("heap of nothing", x.heap(0), 0);
        DUE.is("none SAID", x.said(), 0);
        DUE.is("no SAYINGS", x.count(0), 0);
        DUE.is("no DEEDS", x.count(2), 0);
        DUE.is("heap(2) again", x.heap(2), 2);
        DUE.is("all SAID again", x.said(), 3);
    }

    private static void heapRefused() {
        IronedQuarrels x = Texts.heapOf("s0101-");
        x.unsay(0);
        x.keep(1);
        long ahead = x.digest();
        DUE.is("heap(-1)", x.heap(-1), BAD);
        DUE.is("heap(4)", x.heap(4), BAD);
        DUE.finds("heap(1)", x.heap(1), x, 1);
        DUE.is("nothing changed", x.digest(), ahead);
        Texts.write(x, 0, "s0101-s0101-x");
        ahead = x.digest();
        DUE.is("heap of a FAULT", x.heap(0), STATE);
        DUE.is("nothing changed", x.digest(), ahead);
        DUE.is("one DEED still", x.count(2), 1);
        DUE.is("kept still", x.on(1), 1);
    }

    private static void sayingIs(IronedQuarrels x, int i, int... facts) {
        for (int what = 0; what < 8; what++) {
            DUE.is("saying(" + i + ", " + what + ")", x.saying(i, what), 1);
            DUE.is("what saying(" + i + ", " + what + ") told", x.asked(), facts[what]);
        }
    }

    private static void saying() {
        IronedQuarrels x = Texts.heapOf("s0459-c5321At2301By1012A");
        sayingIs(x, 0, 0, 0, 4, 5, 9, NONE, 1, 9);
        sayingIs(x, 1, 5, 5, 3, 2, 1, 0, 1, 3);
        sayingIs(x, 2, 2, 2, 3, 0, 1, 1, 1, 1);
        sayingIs(x, 3, 4, 1, 0, 1, 2, 0, 1, 2);
        x.unsay(3);
        sayingIs(x, 3, 4, 1, 0, 1, 2, 0, 0, 2);
        DUE.is("saying(4, 0)", x.saying(4, 0), BAD);
        DUE.is("saying(-1, 0)", x.saying(-1, 0), BAD);
        DUE.is("saying(0, 8)", x.saying(0, 8), BAD);
        DUE.is("saying(0, -1)", x.saying(0, -1), BAD);
        DUE.is("asked() stays", x.asked(), 2);
    }

    private static void priceIs(IronedQuarrels x, int i, int want) {
        x.saying(i, 7);
        DUE.is("the PRICE of " + i, x.asked(), want);
    }

    private static void sayingPrices() {
        // five BETWEEN 0 and 1, either way, and one that is not
        IronedQuarrels x = Texts.heapOf("s0107-o1036-t0105-p0155-y1054-c0148-s0205-");
        priceIs(x, 0, 5 + 7);
        priceIs(x, 1, 5 + 1);
        priceIs(x, 2, 5 + 5);
        priceIs(x, 3, 5 + 10);
        priceIs(x, 4, (5 + 8) / 2);
        priceIs(x, 5, 5 + 1 + 4);
        priceIs(x, 6, 5);
        x.unsay(0);
        priceIs(x, 0, 5 + 7);
        priceIs(x, 1, 4 + 1);
        priceIs(x, 4, (4 + 8) / 2);
        priceIs(x, 6, 5);
    }

    private static void markOld() {
        IronedQuarrels x = Texts.heapOf("o0101-s1001-s0201-o0101-c1001-o2001-");
        DUE.is("mark(0, OLD)", x.mark(0, 1), 0);
        DUE.is("mark(3, OLD)", x.mark(3, 1), 2);
        DUE.is("mark(4, OLD), a COLOUR", x.mark(4, 1), 3);
        DUE.is("mark(5, OLD)", x.mark(5, 1), 1);
        x.unsay(0);
        DUE.is("mark(3, OLD), one UNSAID", x.mark(3, 1), 2);
        DUE.is("mark tells not by asked()", x.asked(), 0);
    }

    private static void markOthers() {
        IronedQuarrels x = Texts.heapOf("s0111-t1201At2001-p0137-y0137Ds2511Ec2512Fc1312F");
        DUE.is("mark(1, STAIN)", x.mark(1, 2), 1);
        DUE.is("mark(2, STAIN)", x.mark(2, 2), 5);
        DUE.is("mark(3, PRIDE)", x.mark(3, 3), 107);
        DUE.is("mark(4, PRIDE), a SORRY", x.mark(4, 3), 100 + (2 + 14) / 2 - 2 - 7);
        DUE.is("mark(4, SORRY)", x.mark(4, 4), 1);
        DUE.is("mark(6, COLOUR)", x.mark(6, 5), 3);
        DUE.is("mark(7, COLOUR)", x.mark(7, 5), 3);
        DUE.is("a COLOUR with the first one", Texts.heapOf("s0131-c1031As2321Ac2331-").mark(1, 5), 2);
        x.unsay(7);
        x.unsay(6);
        DUE.is("mark(6, COLOUR), two UNSAID", x.mark(6, 5), 3);
        x.unsay(5);
        DUE.is("mark(4, SORRY), none SAID", x.mark(4, 4), 0);
        x.unsay(0);
        x.unsay(4);
        DUE.is("mark(4, PRIDE), less HEAT", x.mark(4, 3), 100 + (1 + 14) / 2 - 1 - 7);
    }

    private static void markRefused() {
        IronedQuarrels x = Texts.heapOf("s0101-o0101-t0101-p0101-y0101-c0101-");
        String[] fits = {"", "1", "2", "3", "34", "15"};
        for (int i = 0; i < 6; i++) {
            for (int kind = 1; kind <= 5; kind++) {
                if (fits[i].indexOf('0' + kind) < 0) {
                    DUE.finds("mark(" + i + ", " + kind + ")", x.mark(i, kind), x, 3);
                } else {
                    DUE.holds("mark(" + i + ", " + kind + ") answers", x.mark(i, kind) >= 0);
                }
            }
            DUE.is("KIND 0", x.mark(i, 0), BAD);
            DUE.is("KIND 6", x.mark(i, 6), BAD);
            DUE.is("KIND -1", x.mark(i, -1), BAD);
        }
        DUE.is("mark(6, 1)", x.mark(6, 1), BAD);
        DUE.is("mark(-1, 1)", x.mark(-1, 1), BAD);
        DUE.is("how many UNLIKE", x.findings(3), 23);
    }
}
