/** Counts the answers that are not as due; each test prints them and ends with exit code 1 if there was one. */
final class Due {
    private final String test;
    private String place;
    private int right;
    private int wrong;

    Due(String test) {
        this.test = test;
        place = test;
    }

    /** What comes is of this case, until the next one. */
    void begin(String name) {
        place = test + ": " + name;
    }

    void is(String what, long got, long want) {
        if (got == want) {
            right++;
            return;
        }
        wrong++;
        System.out.println(place + ": " + what + " answered " + got + ", due is " + want);
    }

    void is(String what, boolean got, boolean want) {
        is(what, got ? 1 : 0, want ? 1 : 0);
    }

    void fails(String what) {
        wrong++;
        System.out.println(place + ": " + what);
    }

    int seen() {
        return right + wrong;
    }

    void end() {
        System.out.println(test + ": " + right + " answers as due, " + wrong + " not");
        if (wrong != 0) System.exit(1);
    }
}
