/** Counts answers that are as due, and tells of each one that is not. */
final class Due {
    private final String test;
    private int right = 0;
    private int wrong = 0;

    Due(String test) {
        this.test = test;
    }

    void is(String call, long got, long want) {
        if (got == want) {
            right++;
        } else {
            wrong++;
            System.out.println(test + ": " + call + " answered " + got + ", due is " + want);
        }
    }

    void holds(String what, boolean is) {
        is(what, is ? 1 : 0, 1);
    }

    int asked() {
        return right + wrong;
    }

    boolean allRight() {
        return right > 0 && wrong == 0;
    }

    void finish() {
        System.out.println(test + ": " + right + " answers as due, " + wrong + " not");
        if (!allRight()) {
            System.exit(1);
        }
    }
}
