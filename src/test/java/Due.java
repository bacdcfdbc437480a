/** Compares answers with those that are due, prints each wrong one, and ends a test by its exit code. */
final class Due {
    private int asked;
    private int wrong;

    void is(String call, long got, long want) {
        asked++;
        if (got == want) return;
        wrong++;
        System.out.println(call + " answered " + got + ", due is " + want);
    }

    void holds(String what, boolean itDoes) {
        is(what, itDoes ? 1 : 0, 1);
    }

    void end() {
        System.out.println(asked + " answers, " + wrong + " not as due");
        if (wrong != 0 || asked == 0) System.exit(1);
    }

    /** The name of one to eight letters, the lowest byte first. */
    static long name(String letters) {
        long name = 0;
        for (int i = letters.length() - 1; i >= 0; i--) name = name << 8 | letters.charAt(i);
        return name;
    }
}
