/** Compares answers with those that are due, and ends the test with exit code 1 if one was not. */
final class Due {
    static final int BEYOND = -100001;
    static final int MISSING = -100002;
    static final int SIZE = -100003;
    static final int KIND = -100004;
    static final int FULL = -100005;
    static final int NONE = -100006;

    private static int asked = 0;
    private static int wrong = 0;

    private Due() {
    }

    static void is(String what, long got, long want) {
        asked++;
        if (got != want) {
            wrong++;
            System.out.println(what + " answered " + got + ", due is " + want);
        }
    }

    static void that(String what, boolean holds) {
        is(what, holds ? 1 : 0, 1);
    }

    static int asked() {
        return asked;
    }

    static void end() {
        System.out.println(asked + " answers asked, " + wrong + " wrong");
        if (wrong != 0 || asked == 0) {
            System.exit(1);
        }
    }
}
