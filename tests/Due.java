/** Counts the answers that are not as due. */
final class Due {
    private static int checked = 0;
    private static int wrong = 0;

    private Due() {
    }

    static void is(String what, String got, String due) {
        checked++;
        if (!got.equals(due)) {
            wrong++;
            System.out.println(what + " answered " + got + ", due is " + due);
        }
    }

    static void is(String what, long got, long due) {
        is(what, String.valueOf(got), String.valueOf(due));
    }

    static void is(String what, boolean got, boolean due) {
        is(what, String.valueOf(got), String.valueOf(due));
    }

    static void throwsState(String what, Pair.Call call) {
        is(what, Pair.outcome(call), "throws.IllegalStateException");
    }

    static void throwsIndex(String what, Pair.Call call) {
        is(what, Pair.outcome(call), "throws.IndexOutOfBoundsException");
    }

    static void throwsArgument(String what, Pair.Call call) {
        is(what, Pair.outcome(call), "throws.IllegalArgumentException");
    }

    static void throwsNoRoom(String what, Pair.Call call) {
        is(what, Pair.outcome(call), "throws.UnsupportedOperationException");
    }

    /** How many were not as due so far. */
    static int wrong() {
        return wrong;
    }

    static void finish() {
        System.out.println(checked + " answers, " + wrong + " not as due");
        if (wrong != 0 || Pair.wrong != 0) {
            System.exit(1);
        }
    }
}
