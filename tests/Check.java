/** Compares answers with those that are due, prints each that differs, and ends the program accordingly. */
final class Check {
    interface Call {
        Object answer();
    }

    private static int wrong = 0;

    private Check() {
    }

    /** The answer of a call, or the exact class of what it throws. */
    static Object outcome(Call call) {
        try {
            return call.answer();
        } catch (RuntimeException e) {
            return e.getClass();
        }
    }

    static void due(String what, Object due, Call call) {
        Object got = outcome(call);
        if (!due.equals(got)) {
            wrong++;
            System.out.println(what + " answered " + got + ", due is " + due);
        }
    }

    /** The ints outside of a range: the first too small, the first too large, and both ends of the ints. */
    static int[] outside(int least, int most) {
        return new int[] {least - 1, most + 1, Integer.MIN_VALUE, Integer.MAX_VALUE};
    }

    static void index(String what, Call call) {
        due(what, IndexOutOfBoundsException.class, call);
    }

    static void argument(String what, Call call) {
        due(what, IllegalArgumentException.class, call);
    }

    static void state(String what, Call call) {
        due(what, IllegalStateException.class, call);
    }

    static boolean isAllDue() {
        return wrong == 0;
    }

    static void end() {
        System.out.println(wrong == 0 ? "all answers are as due" : wrong + " answers are not as due");
        if (wrong != 0) {
            System.exit(1);
        }
    }
}
