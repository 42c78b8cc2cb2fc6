/** Counts the answers that are not the ones due, and prints them. */
final class Due {
    private int asked = 0;
    private int wrong = 0;

    void is(String call, long got, long want) {
        asked++;
        if (got == want) return;
        wrong++;
        if (wrong <= 50) System.out.println(call + " answered " + got + ", due is " + want);
    }

    /** Both parts of a fraction. */
    void fraction(String call, long above, long below, long wantAbove, long wantBelow) {
        is(call + " above the line", above, wantAbove);
        is(call + " below the line", below, wantBelow);
    }

    int wrong() {
        return wrong;
    }

    void end() {
        System.out.println(asked + " answers looked at, " + wrong + " not as due");
        if (wrong > 0 || asked == 0) System.exit(1);
    }
}
