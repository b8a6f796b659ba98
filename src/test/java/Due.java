/** Counts the answers that are not the ones due, and ends a test by them. */
final class Due {
    private int looked = 0;
    private int wrong = 0;

    void is(String call, long got, long want) {
        looked++;
        if (got != want) {
            wrong++;
            System.out.println(call + " answered " + got + ", due is " + want);
        }
    }

    void holds(String what, boolean so) {
        looked++;
        if (!so) {
            wrong++;
            System.out.println("does not hold: " + what);
        }
    }

    void finish(String test) {
        System.out.println(test + ": " + looked + " looked at, " + wrong + " not as due");
        if (wrong != 0 || looked == 0) {
            System.exit(1);
        }
    }
}
