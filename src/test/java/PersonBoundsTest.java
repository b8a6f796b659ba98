/** Each sentence of promises 29 to 36 that names a bound: PERSONS, colours, LOTS. */
public final class PersonBoundsTest {
    private static final int BAD = IronedQuarrels.BAD;
    private static final int UNLIKE = 3, NOUGHT = 4;
    private static final int MOST = Integer.MAX_VALUE, LEAST = Integer.MIN_VALUE;
    private static final int[] NO_PERSONS = {-1, 6, 32, 64, MOST, LEAST};
    private static final String TWELVE = "s0101-".repeat(12);
    private static final Due DUE = new Due();

    public static void main(String[] args) {
        endPersons();
        endNoneAndAll();
        endAgainAndAgain();
        endNoSorry();
        ringsNoneAndAll();
        ringsSaid();
        awayNoneAndMost();
        awayTheLeast();
        whoseNumbers();
        whoseAnybody();
        whoseNobody();
        whoseLesserNumbers();
        washNoneAndMost();
        washBothSaid();
        billPersons();
        billNoneAndAll();
        billNothingSaid();
        colourHearings();
        colourModulo();
        colourNumbers();
        lotsHowMany();
        lotsSeeds();
        lotsTillNoneIsLeft();
        lotsModulo();
        DUE.finish("PersonBoundsTest");
    }

    // ---- Promise 29

    private static void endPersons() {
        DUE.sentence("BAD: also the same.");
        IronedQuarrels x = Texts.heapOf("s0501-s0101-");
        DUE.tells("end(0, 5)", x.end(0, 5), 1, x, 1);
        DUE.tells("end(5, 0)", x.end(5, 0), 1, x, 1);
        DUE.tells("end(0, 1)", x.end(0, 1), 2, x, 1);
        for (int p = 0; p < 6; p++) {
            DUE.is("end(" + p + ", " + p + ")", x.end(p, p), BAD);
            for (int none : NO_PERSONS) {
                DUE.is("end(" + none + ", " + p + ")", x.end(none, p), BAD);
                DUE.is("end(" + p + ", " + none + ")", x.end(p, none), BAD);
            }
        }
    }

    private static void endNoneAndAll() {
        DUE.sentence("SAYINGS that are SAID (bits) that have to be UNSAID so that none is BETWEEN two PERSONS");
        IronedQuarrels x = new IronedQuarrels();
        DUE.tells("of none", x.end(0, 5), 0, x, 0);
        x = Texts.heapOf("s0101-s1001-".repeat(6));
        DUE.tells("all", x.end(0, 1), 4095, x, 12);
        DUE.tells("none BETWEEN these", x.end(0, 2), 0, x, 0);
        x.lots(12, 1);
        DUE.tells("all UNSAID", x.end(0, 1), 0, x, 0);
    }

    private static void endAgainAndAgain() {
        DUE.sentence("these, and, again and again, what is SAID and ANSWERS one of these");
        IronedQuarrels x = Texts.heapOf("s0101-s2301As2301Bs2301Cs2301Ds2301Es2301Fs2301Gs2301Hs2301Is2301Js2301K");
        DUE.tells("all, one by the other", x.end(0, 1), 4095, x, 12);
        x.unsay(11);
        DUE.tells("but the one that is UNSAID", x.end(0, 1), 2047, x, 11);
        DUE.tells("not what is answered", Texts.heapOf("s2301-s0101A").end(0, 1), 2, x, 11);
    }

    private static void endNoSorry() {
        DUE.sentence("ANSWERS one of these that is no SORRY");
        IronedQuarrels x = Texts.heapOf("y0101-s2301A");
        DUE.tells("a SORRY of these", x.end(0, 1), 1, x, 1);
        x = Texts.heapOf("p0101-y2301As4501B");
        DUE.tells("a SORRY that ANSWERS", x.end(0, 1), 3, x, 2);
        x = Texts.heapOf("p0101-y2301As0101B");
        DUE.tells("BETWEEN them, whatever it ANSWERS", x.end(0, 1), 7, x, 3);
        // one that is UNSAID is none of these, so that what ANSWERS it stays
        x = Texts.heapOf("p0101-y2301As4501B");
        x.unsay(1);
        DUE.tells("behind one that is UNSAID", x.end(0, 1), 1, x, 1);
    }

    // ---- Promises 30 and 31

    private static void ringsAre(String signs, int persons, int sayOrAreTold, int fewest, int which) {
        IronedQuarrels x = Texts.heapOf(signs);
        DUE.tells("rings() of '" + signs + "'", x.rings(), persons, x, sayOrAreTold);
        DUE.tells("away() of '" + signs + "'", x.away(), fewest, x, which);
    }

    private static void ringsNoneAndAll() {
        DUE.sentence("PERSONS (bits) who are in a ring: each says something that is SAID to the next one,"
                + " the last one to the first one");
        ringsAre("", 0, 0, 0, 0);
        ringsAre("s0101-", 0, 2, 0, 0);
        ringsAre("s0101-s1001-", 3, 2, 1, 1);
        ringsAre("s0101-s1201-s2301-s3401-s4501-", 0, 6, 0, 0);
        ringsAre("s0101-s1201-s2301-s3401-s4501-s5001-", 63, 6, 1, 1);
        ringsAre("s4501-s5401-s0101-s2101-", 48, 5, 1, 16);
        // who only leads to a ring, or from it, or from one to another, is in none
        ringsAre("s0101-s1201-s2101-s2301-s3401-s4301-s4501-", 6 + 24, 6, 2, 2 + 8);
        ringsAre("s0101-s1001-s1201-s2301-s3401-s4301-", 3 + 24, 5, 2, 1 + 8);
    }

    private static void ringsSaid() {
        DUE.sentence("how many PERSONS say, or are told, something SAID by asked()");
        IronedQuarrels x = Texts.heapOf("s0101-s1001-s2301-");
        DUE.tells("all SAID", x.rings(), 3, x, 4);
        x.unsay(2);
        DUE.tells("one UNSAID", x.rings(), 3, x, 2);
        x.unsay(1);
        DUE.tells("the ring broken", x.rings(), 0, x, 2);
        DUE.tells("none to be sent away", x.away(), 0, x, 0);
        x.unsay(0);
        DUE.tells("all UNSAID", x.rings(), 0, x, 0);
    }

    private static void awayNoneAndMost() {
        DUE.sentence("The fewest PERSONS that have to be sent away so that no ring is left");
        ringsAre(TWELVE, 0, 2, 0, 0);
        ringsAre("s0101-s1001-s2301-s3201-s4501-s5401-", 63, 6, 3, 1 + 4 + 16);
        ringsAre("s0101-s1001-s0201-s2001-s0301-s3001-s1201-s2101-s1301-s3101-s2301-s3201-", 15, 4, 3, 7);
        // twelve SAYINGS can make four go, and no more
        ringsAre("s0101-s1001-s0201-s2001-s1201-s2101-s3401-s4301-s3501-s5301-s4501-s5401-", 63, 6, 4, 3 + 24);
    }

    private static void awayTheLeast() {
        DUE.sentence("which (bits; the least) by asked()");
        ringsAre("s0501-s5001-", 33, 2, 1, 1);
        ringsAre("s4501-s5401-", 48, 2, 1, 16);
        // fewer go ahead of lesser bits
        ringsAre("s0501-s5001-s1501-s5101-s2501-s5201-", 39, 4, 1, 32);
        ringsAre("s0101-s1001-s1201-s2101-s2301-s3201-", 15, 4, 2, 1 + 4);
    }

    // ---- Promise 32

    private static void whoseNumbers() {
        DUE.sentence("BAD; UNLIKE: no STAIN.");
        DUE.is("whose(0) of none", new IronedQuarrels().whose(0), BAD);
        IronedQuarrels x = Texts.heapOf("t0101-s0101-o0101-p0101-y0101-c0101-t0101-");
        DUE.is("whose(-1)", x.whose(-1), BAD);
        DUE.is("whose(0)", x.whose(0), 61);
        for (int i = 1; i < 6; i++) {
            DUE.finds("whose(" + i + ")", x.whose(i), x, UNLIKE);
        }
        DUE.is("whose(6)", x.whose(6), 61);
        DUE.is("whose(7)", x.whose(7), BAD);
        DUE.is("whose(most)", x.whose(MOST), BAD);
        DUE.is("whose(least)", x.whose(LEAST), BAD);
    }

    private static void whoseAnybody() {
        DUE.sentence("or, if it ANSWERS none, anybody");
        for (int p = 0; p < 6; p++) {
            String signs = "t" + (p == 0 ? 1 : 0) + p + "01-";
            DUE.is("none TO WHOM it is, " + p, Texts.heapOf(signs).whose(0), 63 & ~(1 << p));
        }
        DUE.is("behind others", Texts.heapOf("s0101-s1201-t3401-").whose(2), 63 - 16);
    }

    private static void whoseNobody() {
        DUE.sentence("none TO WHOM it is, none WHO said that which it ANSWERS");
        DUE.is("TO WHOM it is", Texts.heapOf("s0101-t2101A").whose(1), 0);
        DUE.is("who was told nothing", Texts.heapOf("s1201-t3401A").whose(1), 4);
        DUE.is("WHO is answered", Texts.heapOf("s0101-s2001-t3401A").whose(2), 2);
        DUE.is("both", Texts.heapOf("s0101-s2001-t3101A").whose(2), 0);
        DUE.is("who told something further ahead may", Texts.heapOf("s0101-s1001At2301B").whose(2), 1);
    }

    private static void whoseLesserNumbers() {
        DUE.sentence("and who was told something by a SAYING of a lesser number");
        IronedQuarrels x = Texts.heapOf("s0101-t3401As0201-");
        DUE.is("not by a greater number", x.whose(1), 2);
        x = Texts.heapOf("s0101-s1201-s1301-s1401-s1501-s1001-t5001A");
        DUE.is("all others", x.whose(6), 2 + 4 + 8 + 16 + 32);
        x.lots(12, 1);
        DUE.is("SAID or not", x.whose(6), 2 + 4 + 8 + 16 + 32);
    }

    // ---- Promises 33 and 34

    private static void washNoneAndMost() {
        DUE.sentence("How many pairs of BUNDLES (each in one pair at most) can be washed together");
        DUE.is("of none", new IronedQuarrels().wash(), 0);
        DUE.is("of one", Texts.heapOf("s0101-").wash(), 0);
        DUE.is("of two", Texts.heapOf("s0101-s1001-").wash(), 1);
        DUE.is("of three", Texts.heapOf("s0101-s1001-s0101-").wash(), 1);
        DUE.is("of twelve", Texts.heapOf("s0501-s5001-".repeat(6)).wash(), 6);
        DUE.is("the same way round", Texts.heapOf(TWELVE).wash(), 0);
        DUE.is("of all PERSONS", Texts.heapOf("s0101-s1001-s2301-s3201-s4501-s5401-").wash(), 3);
        DUE.is("with another one", Texts.heapOf("s0101-s2001-s1201-").wash(), 0);
    }

    private static void washBothSaid() {
        DUE.sentence("both first ones SAID");
        IronedQuarrels x = Texts.heapOf("y0101-s1001-s0101A");
        DUE.is("both SAID", x.wash(), 1);
        x.unsay(0);
        DUE.is("one UNSAID, what ANSWERS it SAID", x.wash(), 0);
        x.undo(0);
        x.unsay(1);
        DUE.is("the other one UNSAID", x.wash(), 0);
        x.unsay(0);
        DUE.is("both UNSAID", x.wash(), 0);
    }

    private static void billPersons() {
        DUE.sentence("The share of a PERSON of the bill");
        IronedQuarrels x = Texts.heapOf("s0501-s5001-");
        DUE.shares("bill(0)", x.bill(0), x, 1, 2);
        DUE.shares("bill(5)", x.bill(5), x, 1, 2);
        for (int none : NO_PERSONS) {
            DUE.is("bill(" + none + ")", x.bill(none), BAD);
        }
    }

    private static void billNoneAndAll() {
        DUE.sentence("in lowest terms, the lower number above 0 (0 by 1)");
        IronedQuarrels x = Texts.heapOf("s0101-" + "s1001A".repeat(11));
        DUE.shares("all of it", x.bill(0), x, 1, 1);
        DUE.shares("none of it", x.bill(1), x, 0, 1);
        DUE.sentence("all PRICES now of SAYINGS that are SAID, by those of BUNDLES that this one began (WHO of the first one)");
        x = Texts.heapOf("y0101-s1009As2302-");
        x.unsay(0);
        DUE.shares("the first one UNSAID", x.bill(0), x, 9, 11);
        DUE.shares("WHO of another one", x.bill(1), x, 0, 1);
        x = Texts.heapOf("s0104-s2302-s0202-");
        DUE.shares("two BUNDLES", x.bill(0), x, 3, 4);
    }

    private static void billNothingSaid() {
        DUE.sentence("NOUGHT: nothing is SAID");
        IronedQuarrels x = new IronedQuarrels();
        DUE.finds("bill(0) of none", x.bill(0), x, NOUGHT);
        x = Texts.heapOf("o0101-");
        DUE.shares("bill(0) of one", x.bill(0), x, 1, 1);
        x.unsay(0);
        DUE.finds("bill(0), all UNSAID", x.bill(0), x, NOUGHT);
    }

    // ---- Promise 35

    private static void colourHearings() {
        DUE.sentence("behind n (0 .. 20) hearings");
        IronedQuarrels x = Texts.heapOf("s0151-s0101A");
        DUE.is("colour(0, 0)", x.colour(0, 0), 5);
        DUE.is("colour(0, -1)", x.colour(0, -1), BAD);
        DUE.is("colour(0, 1)", x.colour(0, 1), 0);
        DUE.is("colour(0, 19)", x.colour(0, 19), (5 + 19) % 6);
        DUE.is("colour(0, 20)", x.colour(0, 20), (5 + 20) % 6);
        DUE.is("colour(0, 21)", x.colour(0, 21), BAD);
        DUE.is("colour(0, most)", x.colour(0, MOST), BAD);
        DUE.is("colour(0, least)", x.colour(0, LEAST), BAD);
    }

    private static void colourModulo() {
        DUE.sentence("1 more for each that is SAID and ANSWERS it, and 2 more, if it is a COLOUR, modulo 6");
        IronedQuarrels x = Texts.heapOf("c0151-" + "s0101A".repeat(11));
        DUE.is("thirteen at once", x.colour(0, 1), (5 + 13) % 6);
        DUE.is("thirteen twenty times", x.colour(0, 20), (5 + 260) % 6);
        x = Texts.heapOf("c0131-s0131-");
        DUE.is("2 more, to 5", x.colour(0, 1), 5);
        DUE.is("2 more, 7 is 1", x.colour(0, 2), 1);
        DUE.is("none more", x.colour(1, 20), 3);
        x = Texts.heapOf("s0141-s0101As0101A");
        DUE.is("4 and 2 is 0", x.colour(0, 1), 0);
        x.unsay(2);
        DUE.is("4 and 1 is 5", x.colour(0, 1), 5);
        DUE.is("5 and 1 is 0", x.colour(0, 2), 0);
        x.unsay(1);
        DUE.is("no more", x.colour(0, 1), 4);
    }

    private static void colourNumbers() {
        DUE.sentence("The TOPIC that a SAYING has .. BAD.");
        DUE.is("colour(0, 0) of none", new IronedQuarrels().colour(0, 0), BAD);
        IronedQuarrels x = Texts.heapOf("s0121-".repeat(12));
        DUE.is("colour(0, 0)", x.colour(0, 0), 2);
        DUE.is("colour(11, 0)", x.colour(11, 0), 2);
        for (int i : new int[] {-1, 12, 32, MOST, LEAST}) {
            DUE.is("colour(" + i + ", 0)", x.colour(i, 0), BAD);
        }
    }

    // ---- Promise 36

    private static void lotsHowMany() {
        DUE.sentence("n (1 .. 12) are UNSAID truly by LOTS of a seed");
        IronedQuarrels x = Texts.heapOf(TWELVE);
        DUE.is("lots(0, 1)", x.lots(0, 1), BAD);
        DUE.is("lots(-1, 1)", x.lots(-1, 1), BAD);
        DUE.is("lots(13, 1)", x.lots(13, 1), BAD);
        DUE.is("lots(most, 1)", x.lots(MOST, 1), BAD);
        DUE.is("lots(least, 1)", x.lots(LEAST, 1), BAD);
        DUE.is("no DEEDS", x.count(2), 0);
        DUE.is("lots(1, 1)", x.lots(1, 1), 12);
        DUE.is("one DEED", x.count(2), 1);
        x.undo(0);
        DUE.is("lots(12, 1)", x.lots(12, 1), 78);
        DUE.is("twelve DEEDS", x.count(2), 12);
    }

    private static void lotsSeeds() {
        DUE.sentence("the first from the seed (1 .. 2147483646)");
        IronedQuarrels x = Texts.heapOf("s0101-s2302-s4504-");
        DUE.is("seed 0", x.lots(1, 0), BAD);
        DUE.is("seed -1", x.lots(1, -1), BAD);
        DUE.is("seed least", x.lots(1, LEAST), BAD);
        DUE.is("seed 2147483647", x.lots(1, 2147483647), BAD);
        DUE.tells("nothing UNSAID", x.said(), 7, x, 7);
        // 48271 is 1 modulo 3, 2147435376 is 0 modulo 3
        DUE.is("seed 1", x.lots(1, 1), 2);
        x.undo(0);
        DUE.is("seed 2147483646", x.lots(1, 2147483646), 1);
    }

    private static void lotsTillNoneIsLeft() {
        DUE.sentence("till none is left, or 40 DEEDS are done: all PRICES");
        IronedQuarrels x = new IronedQuarrels();
        DUE.is("of none", x.lots(1, 1), 0);
        x = Texts.heapOf("s0101-s0101-s0101A");
        DUE.is("as many as there are", x.lots(3, 5), 6);
        DUE.is("DEEDS", x.count(2), 3);
        DUE.is("none is left", x.lots(1, 5), 0);
        x.undo(0);
        DUE.is("one less than there are", x.lots(2, 5), 5);
        DUE.is("one is left", x.count(1), 1);
        x.undo(0);
        DUE.is("more than there are", x.lots(4, 5), 6);
        DUE.is("DEEDS", x.count(2), 3);
        DUE.tells("none SAID", x.said(), 0, x, 0);
    }

    /** 48271 times the seed is far above an int, and only each number as a whole tells the next one. */
    private static void lotsModulo() {
        DUE.sentence("a number comes from the one ahead by 48271 times it modulo 2147483647");
        int[] seeds = {2147483646, 2147483645, 44488, 44489, 65537, 1 << 30, 1};
        for (int seed : seeds) {
            IronedQuarrels x = Texts.heapOf(TWELVE);
            java.math.BigInteger number = java.math.BigInteger.valueOf(seed);
            int left = 4095;
            for (int many = 1; many <= 12; many++) {
                number = number.multiply(java.math.BigInteger.valueOf(48271))
                        .mod(java.math.BigInteger.valueOf(2147483647));
                int at = number.mod(java.math.BigInteger.valueOf(Integer.bitCount(left))).intValue();
                int free = left;
                for (int k = 0; k < at; k++) {
                    free &= free - 1;
                }
                left &= ~Integer.lowestOneBit(free);
                x.undo(0);
                x.lots(many, seed);
                DUE.tells("SAID behind lots(" + many + ", " + seed + ")", x.said(), left, x, left);
            }
        }
        DUE.sentence("of those that MAY BE then");
        IronedQuarrels x = Texts.heapOf("s0101-s0101As0101Bs0101Cs0101D");
        DUE.is("one at a time", x.lots(3, 77), 5 + 4 + 3);
        DUE.tells("SAID", x.said(), 3, x, 2);
    }
}
