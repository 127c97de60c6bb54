/** Counts and prints answers that are not the due ones. */
final class Due {
    private final String test;
    private int asked;
    private int wrong;

    Due(String test) {
        this.test = test;
    }

    void is(String what, long got, long want) {
        asked++;
        if (got != want) {
            wrong++;
            if (wrong <= 50) {
                System.out.println(test + ": " + what + " answered " + got + ", due is " + want);
            }
        }
    }

    void isTrue(String what, boolean got) {
        is(what, got ? 1 : 0, 1);
    }

    boolean failed() {
        return wrong > 0;
    }

    void end() {
        System.out.println(test + ": " + asked + " asked, " + wrong + " wrong");
        if (wrong > 0) {
            System.exit(1);
        }
    }
}
