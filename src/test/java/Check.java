/** What every test is made of: calls, the answers that are due, and the exceptions. */
final class Check {
    static final int ILLEGAL_ARGUMENT = 1;
    static final int ILLEGAL_STATE = 2;
    static final int OUT_OF_BOUNDS = 3;

    private static int wrong = 0;
    private static int looked = 0;

    private Check() {
    }

    /** A call that may throw. */
    interface Call {
        void go();
    }

    static void due(String call, long got, long want) {
        looked++;
        if (got != want) {
            wrong++;
            System.out.println(call + " answered " + got + ", due is " + want);
        }
    }

    static void due(String call, boolean got, boolean want) {
        due(call, got ? 1 : 0, want ? 1 : 0);
    }

    static void due(String call, String got, String want) {
        looked++;
        if (!got.equals(want)) {
            wrong++;
            System.out.println(call + " answered '" + got + "', due is '" + want + "'");
        }
    }

    static void argument(String call, Call tried) {
        due(call + " throws", thrownBy(tried), ILLEGAL_ARGUMENT);
    }

    static void state(String call, Call tried) {
        due(call + " throws", thrownBy(tried), ILLEGAL_STATE);
    }

    static void bounds(String call, Call tried) {
        due(call + " throws", thrownBy(tried), OUT_OF_BOUNDS);
    }

    /** Just the classes that the document names: one derived from them is another answer. */
    private static int thrownBy(Call tried) {
        try {
            tried.go();
        } catch (RuntimeException e) {
            if (e.getClass() == IllegalArgumentException.class) {
                return ILLEGAL_ARGUMENT;
            }
            if (e.getClass() == IllegalStateException.class) {
                return ILLEGAL_STATE;
            }
            return e.getClass() == IndexOutOfBoundsException.class ? OUT_OF_BOUNDS : -1;
        }
        return 0;
    }

    /** How many answers were not as due until now. */
    static int wrong() {
        return wrong;
    }

    static void end() {
        System.out.println(looked + " answers, " + wrong + " not as due");
        if (wrong != 0 || looked == 0) {
            System.exit(1);
        }
    }
}
