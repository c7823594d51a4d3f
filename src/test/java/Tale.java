/** Shorthand of the tests: tells programs, and tells histories as text. */
final class Tale {
    private static final String[] KINDS = {"STARTED", "DONE", "LOST", "FIRED", "SIGNAL", "CHILD_OVER", "CANCEL",
        "DECIDED", "ACTIVITY", "ACTIVITY_OFF", "TIMER_SET", "TIMER_OFF", "CHILD_MADE", "MARKED", "TOLD", "UNDOING",
        "OVER"};

    private Tale() {
    }

    /** Tells the steps (kind, a and b of each, one after the other) and releases them as the next version. */
    static int version(Flowkeeper x, int type, int... steps) {
        tell(x, type, steps);
        return x.release(type);
    }

    static void tell(Flowkeeper x, int type, int... steps) {
        for (int i = 0; i < steps.length; i += 3) {
            x.step(type, steps[i], steps[i + 1], steps[i + 2]);
        }
    }

    /** A new object with version 1 of the type 0 told, and the workflow 0 of it started with the register. */
    static Flowkeeper started(int register, int... steps) {
        Flowkeeper x = new Flowkeeper();
        version(x, 0, steps);
        x.start(0, 0, register);
        return x;
    }

    static String history(Flowkeeper x, int workflow, int run) {
        return history(x, workflow, run, 0);
    }

    static String history(Flowkeeper x, int workflow, int run, int from) {
        StringBuilder text = new StringBuilder();
        for (int i = from; i < x.events(workflow, run); i++) {
            text.append(i == from ? "" : ", ").append(KINDS[x.eventKind(workflow, run, i)]).append(' ')
                    .append(x.eventNumber(workflow, run, i, true)).append(' ')
                    .append(x.eventNumber(workflow, run, i, false));
        }
        return text.toString();
    }

    /** Holds the end of the latest run's history, from the place on, against the text. */
    static void behind(Flowkeeper x, int workflow, int from, String want) {
        Check.same("history of " + workflow + " from " + from, want, history(x, workflow, x.runs(workflow), from));
    }

    static void all(Flowkeeper x, int workflow, String want) {
        behind(x, workflow, 0, want);
    }

    static void decides(Flowkeeper x, int workflow, long want) {
        Check.due("decide(" + workflow + ", 1)", want, () -> x.decide(workflow, 1));
    }

    /** The latest run's state and register, and the step at which it waits. */
    static void stands(Flowkeeper x, int workflow, int state, int register, int place) {
        Check.due("state of " + workflow, state, () -> x.state(workflow, x.runs(workflow)));
        Check.due("register of " + workflow, register, () -> x.register(workflow));
        Check.due("place of " + workflow, place, () -> x.place(workflow));
    }

    /** The worker 0 takes the next activity of the queue, which must be this one, and ends it. */
    static void does(Flowkeeper x, int queue, int activity, int result) {
        Check.due("take(0, " + queue + ")", activity, () -> x.take(0, queue));
        Check.holds("end(0, " + result + ")", () -> Check.truth(x.end(0, result)));
    }

    /** The worker 0 takes the next activity of the queue, which must be this one, three times, and fails. */
    static void loses(Flowkeeper x, int queue, int activity) {
        for (int i = 1; i <= 3; i++) {
            int tried = i;
            Check.due("take(0, " + queue + ")", activity, () -> x.take(0, queue));
            Check.due("fail(0)", tried, () -> x.fail(0));
            if (i < 3) {
                x.tick(2 * i);
            }
        }
    }

    static void signals(Flowkeeper x, int workflow, int which, int value) {
        Check.holds("signal(" + workflow + ", " + which + ", " + value + ")",
                () -> Check.truth(x.signal(workflow, which, value)));
    }

    static void cancels(Flowkeeper x, int workflow) {
        Check.holds("cancel(" + workflow + ")", () -> Check.truth(x.cancel(workflow)));
    }

    /** Two tries of each of the ready activities of the queue 0 fail, within six ticks, and they are ready then. */
    static void loseTwice(Flowkeeper x, int... activities) {
        for (int tried = 1; tried <= 2; tried++) {
            for (int activity : activities) {
                Check.due("take(0, 0)", activity, () -> x.take(0, 0));
                x.fail(0);
            }
            x.tick(2 * tried);
        }
    }
}
