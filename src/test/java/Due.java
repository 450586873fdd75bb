/** Counts the answers that are not due, and ends a test. */
final class Due {
    private final String test;
    private int asked = 0;
    private int wrong = 0;

    Due(String test) {
        this.test = test;
    }

    void is(String call, long got, long due) {
        asked++;
        if (got != due) {
            wrong++;
            if (wrong <= 40) {
                System.out.println(test + ": " + call + " answered " + got + ", due is " + due);
            }
        }
    }

    int wrong() {
        return wrong;
    }

    void end() {
        System.out.println(test + ": " + asked + " answers, " + wrong + " not as due");
        if (wrong != 0) {
            System.exit(1);
        }
    }
}
