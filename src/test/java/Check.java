/** Holds answers against those that are due, and counts the wrong ones. */
final class Check {
    /** A call whose answer is a number; a boolean is told as 1 or 0 by truth(). */
    interface Call {
        long answer();
    }

    /** A call whose answer does not matter. */
    interface Act {
        void go();
    }

    private static int checked;
    private static int wrong;
    /** What the answers are about, told ahead of each wrong one. */
    private static String about = "";

    private Check() {
    }

    static void about(String what) {
        about = what.isEmpty() ? "" : "[" + what + "]\n    ";
    }

    static int count() {
        return checked;
    }

    static long truth(boolean value) {
        return value ? 1 : 0;
    }

    static void due(String what, long want, Call call) {
        String got;
        try {
            got = String.valueOf(call.answer());
        } catch (RuntimeException e) {
            got = "throws." + e.getClass().getSimpleName();
        }
        same(what, String.valueOf(want), got);
    }

    static void holds(String what, Call call) {
        due(what, 1, call);
    }

    static void fails(String what, Class<? extends RuntimeException> want, Act act) {
        String got = "nothing thrown";
        try {
            act.go();
        } catch (RuntimeException e) {
            got = e.getClass().getSimpleName();
        }
        same(what, want.getSimpleName(), got);
    }

    static void outside(String what, Act act) {
        fails(what, IndexOutOfBoundsException.class, act);
    }

    static void argument(String what, Act act) {
        fails(what, IllegalArgumentException.class, act);
    }

    static void state(String what, Act act) {
        fails(what, IllegalStateException.class, act);
    }

    static void same(String what, String want, String got) {
        checked++;
        if (!want.equals(got)) {
            wrong++;
            System.out.println("  " + about + what + "\n    due is   " + want + "\n    answered " + got);
        }
    }

    static void done(String test) {
        System.out.println("  " + test + ": " + checked + " answers, " + wrong + " wrong");
        if (wrong != 0) {
            System.exit(1);
        }
    }
}
