/** Shorthand of the tests: tells programs, and tells histories as text. */
final class Tale {
    private static final String[] KINDS = {"STARTED", "DONE", "LOST", "FIRED", "SIGNAL", "CHILD_OVER", "CANCEL",
        "DECIDED", "ACTIVITY", "ACTIVITY_OFF", "TIMER_SET", "TIMER_OFF", "CHILD_MADE", "MARKED", "TOLD", "UNDOING",
        "OVER"};

    private Tale() {
    }

    /** Tells the steps (kind, a and b of each, one after the other) and releases them as the next version. */
    static int version(Flowkeeper x, int type, int... steps) {
        tell(x, type, steps);
        return x.release(type);
    }

    static void tell(Flowkeeper x, int type, int... steps) {
        for (int i = 0; i < steps.length; i += 3) {
            x.step(type, steps[i], steps[i + 1], steps[i + 2]);
        }
    }

    /** A new object with version 1 of the type 0 told, and the workflow 0 of it started with the register. */
    static Flowkeeper started(int register, int... steps) {
        Flowkeeper x = new Flowkeeper();
        version(x, 0, steps);
        x.start(0, 0, register);
        return x;
    }

    static String history(Flowkeeper x, int workflow, int run) {
        return history(x, workflow, run, 0);
    }

    static String history(Flowkeeper x, int workflow, int run, int from) {
        StringBuilder text = new StringBuilder();
        for (int i = from; i < x.events(workflow, run); i++) {
            text.append(i == from ? "" : ", ").append(KINDS[x.eventKind(workflow, run, i)]).append(' ')
                    .append(x.eventNumber(workflow, run, i, true)).append(' ')
                    .append(x.eventNumber(workflow, run, i, false));
        }
        return text.toString();
    }

    /** Holds the end of the latest run's history, from the place on, against the text. */
    static void behind(Flowkeeper x, int workflow, int from, String want) {
        Check.same("history of " + workflow + " from " + from, want, history(x, workflow, x.runs(workflow), from));
    }

    static void all(Flowkeeper x, int workflow, String want) {
        behind(x, workflow, 0, want);
    }
}
