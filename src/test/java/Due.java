/** Counts the answers that are not the ones due, and ends a test by them. */
final class Due {
    private String sentence = "";
    private int sentences = 0;
    private int looked = 0;
    private int wrong = 0;

    /** What is looked at from here on is what these words of the document say. */
    void sentence(String words) {
        sentence = words + ": ";
        sentences++;
    }

    void is(String call, long got, long want) {
        looked++;
        if (got != want) {
            wrong++;
            System.out.println(sentence + call + " answered " + got + ", due is " + want);
        }
    }

    /** A call that is refused by a FINDING, and which one. */
    void finds(String call, int got, IronedQuarrels x, int finding) {
        is(call, got, IronedQuarrels.FINDING);
        is("finding() behind " + call, x.finding(), finding);
    }

    /** A call that tells by asked(). */
    void tells(String call, int got, IronedQuarrels x, int told) {
        is(call, got, 1);
        is("asked() behind " + call, x.asked(), told);
    }

    /** A call that answers by more than 1, and tells by asked(), too. */
    void tells(String call, int got, int want, IronedQuarrels x, int told) {
        is(call, got, want);
        is("asked() behind " + call, x.asked(), told);
    }

    /** A call that tells by upper() and lower(). */
    void shares(String call, int got, IronedQuarrels x, long upper, long lower) {
        is(call, got, 1);
        is("upper() behind " + call, x.upper(), upper);
        is("lower() behind " + call, x.lower(), lower);
    }

    void holds(String what, boolean so) {
        looked++;
        if (!so) {
            wrong++;
            System.out.println(sentence + "does not hold: " + what);
        }
    }

    void finish(String test) {
        String told = sentences == 0 ? "" : sentences + " sentences, ";
        System.out.println(test + ": " + told + looked + " looked at, " + wrong + " not as due");
        if (wrong != 0 || looked == 0) {
            System.exit(1);
        }
    }
}
