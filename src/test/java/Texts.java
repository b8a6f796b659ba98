/** Puts whole strings and lists into an object's TEXTS, ROWS and HEAP. */
final class Texts {
    private Texts() {
    }

    static void write(IronedQuarrels x, int t, String signs) {
        x.text(t, signs.length());
        for (int i = 0; i < signs.length(); i++) {
            x.put(t, i, signs.charAt(i));
        }
    }

    /** A new object with a HEAP of these SAYINGS. */
    static IronedQuarrels heapOf(String signs) {
        IronedQuarrels x = new IronedQuarrels();
        write(x, 0, signs);
        x.heap(0);
        return x;
    }

    static void fill(IronedQuarrels x, int r, int... places) {
        x.row(r, places.length);
        for (int i = 0; i < places.length; i++) {
            x.lay(r, i, places[i]);
        }
    }

    /** Looks at the size and all places of a ROW, by digest-free calls alone. */
    static void rowIs(Due due, IronedQuarrels x, int r, int... places) {
        for (int i = 0; i < places.length; i++) {
            due.is("at(" + r + ", " + i + ")", x.at(r, i), 1);
            due.is("what at(" + r + ", " + i + ") told", x.asked(), places[i]);
        }
        due.is("at(" + r + ", behind the last)", x.at(r, places.length), IronedQuarrels.FINDING);
        due.is("finding", x.finding(), 2);
    }
}
