/** The limits of a run: 60 steps, 9 runs, 77, 78 and 80 events. */
final class LimitsTest implements Words {
    public static void main(String[] args) {
        sixtySteps();
        stepsStartAnew();
        sideIsOneStep();
        tooManyUndoes();
        nineRuns();
        fullHistory();
        seventySeven();
        eighty();
        tooLongLeavesAll();
        tooLongAnew();
        tooLongAsTold();
        lostThings();
        Check.done("LimitsTest");
    }

    /** Two steps for each turn: with the register n at last, 2n steps were gone through. */
    private static void sixtySteps() {
        Flowkeeper x = Tale.started(0, ADD, 1, 0, BACK, 30, 1);
        Tale.decides(x, 0, 1);
        Tale.stands(x, 0, ENDED, 30, NONE);
        Flowkeeper y = Tale.started(0, ADD, 1, 0, BACK, 31, 1);
        Tale.decides(y, 0, 1);
        Tale.behind(y, 0, 1, "DECIDED 1 0, OVER 22 9");
        Tale.stands(y, 0, FAILED, 30, NONE);
        // An END that is told is a step.
        Flowkeeper z = Tale.started(0, ADD, 1, 0, BACK, 30, 1, END, 0, 0);
        Tale.decides(z, 0, 1);
        Tale.stands(z, 0, FAILED, 30, NONE);
        // The 60th step may be one that waits, the 61st not.
        Flowkeeper v = Tale.started(0, SET, 1, 0, ADD, 1, 0, BACK, 30, 1, ACT, 0, 0);
        Tale.decides(v, 0, 1);
        Tale.stands(v, 0, RUNNING, 30, 3);
        Flowkeeper w = Tale.started(0, ADD, 1, 0, BACK, 30, 1, ACT, 0, 0);
        Tale.decides(w, 0, 1);
        Tale.stands(w, 0, FAILED, 30, NONE);
    }

    private static void stepsStartAnew() {
        Flowkeeper x = Tale.started(0, ADD, 1, 0, BACK, 29, 1, WAIT, 0, 0, ADD, 1, 0, BACK, 30, 1);
        Tale.decides(x, 0, 0);
        Tale.signals(x, 0, 0, 0);
        Tale.decides(x, 0, 1);
        Tale.stands(x, 0, ENDED, 30, NONE);
        // Both in one decision: the count starts anew with the signal.
        Flowkeeper y = Tale.started(0, ADD, 1, 0, BACK, 29, 1, WAIT, 0, 0, ADD, 1, 0, BACK, 30, 1);
        Tale.signals(y, 0, 0, 0);
        Tale.decides(y, 0, 1);
        Tale.stands(y, 0, ENDED, 30, NONE);
        // A signal that is there already is nothing that happens: 1 + 58 + 1 + 1 steps.
        Flowkeeper z = Tale.started(0, ACT, 0, 0, ADD, 1, 0, BACK, 29, 1, WAIT, 0, 0, SET, 5, 0, SET, 6, 0);
        z.decide(0, 1);
        Tale.signals(z, 0, 0, 0);
        Tale.does(z, 0, 100, 0);
        Tale.decides(z, 0, 1);
        Tale.stands(z, 0, FAILED, 5, NONE);
    }

    private static void sideIsOneStep() {
        Flowkeeper x = Tale.started(0, ACT, 0, 0, ADD, 1, 0, BACK, 29, 1, SIDE, 3, 0, WAIT, 0, 0, WAIT, 0, 0,
                WAIT, 0, 0, SET, 5, 0);
        x.decide(0, 1);
        for (int i = 0; i < 3; i++) {
            Tale.signals(x, 0, 0, 0);
        }
        Tale.does(x, 0, 100, 0);
        Tale.decides(x, 0, 1);
        Tale.stands(x, 0, ENDED, 5, NONE);
    }

    /** What was put on the list by the steps that were too many is undone, too. */
    private static void tooManyUndoes() {
        Flowkeeper x = Tale.started(0, UNDO, 1, 0, UNDO, 2, 1, BACK, 9, 2);
        Tale.decides(x, 0, 1);
        Tale.all(x, 0, "STARTED 0 0, DECIDED 1 0, UNDOING 2 1");
        Tale.does(x, 1, 100, 0);
        Tale.decides(x, 0, 1);
        Tale.behind(x, 0, 5, "UNDOING 1 0");
    }

    private static void nineRuns() {
        Flowkeeper x = Tale.started(0, UNDO, 4, 1, ADD, 1, 0, AGAIN, 0, 0);
        for (int run = 1; run <= 8; run++) {
            int n = run;
            Tale.decides(x, 0, 1);
            Check.due("runs", n + 1, () -> x.runs(0));
            Check.due("state", AGAIN, () -> x.state(0, n));
            Check.same("history", "STARTED " + (n - 1) + " 0, DECIDED 1 0, OVER 14 " + n, Tale.history(x, 0, n));
            Tale.all(x, 0, "STARTED " + n + " 0");
            Tale.stands(x, 0, RUNNING, 0, NONE);
        }
        Tale.decides(x, 0, 1);
        Tale.all(x, 0, "STARTED 8 0, DECIDED 1 0, UNDOING 4 1");
        Tale.stands(x, 0, RUNNING, 9, NONE);
        Tale.does(x, 1, 900, 0);
        Tale.decides(x, 0, 1);
        Tale.behind(x, 0, 4, "DECIDED 1 0, OVER 22 7");
        Check.due("runs", 9, () -> x.runs(0));
    }

    private static void fill(Flowkeeper x, int workflow, int events) {
        int run = x.runs(workflow);
        while (x.events(workflow, run) < events) {
            Tale.signals(x, workflow, 2, 0);
        }
    }

    private static void fullHistory() {
        Flowkeeper x = Tale.started(3, WAIT, 0, 0);
        fill(x, 0, 78);
        Check.due("a signal more", 0, () -> Check.truth(x.signal(0, 0, 0)));
        Check.due("events", 78, () -> x.events(0, 1));
        Check.holds("it is due", () -> Check.truth(x.isDue(0)));
        Tale.decides(x, 0, 1);
        Tale.behind(x, 0, 78, "DECIDED 1 0, OVER 22 8");
        Tale.stands(x, 0, FAILED, 0, NONE);
    }

    /** A decision that leaves the run RUNNING may leave 77 events, and not 78. */
    private static void seventySeven() {
        Flowkeeper x = Tale.started(3, SET, 5, 0, ACT, 0, 0);
        fill(x, 0, 75);
        Tale.decides(x, 0, 1);
        Check.due("events", 77, () -> x.events(0, 1));
        Tale.stands(x, 0, RUNNING, 5, 1);
        Tale.does(x, 0, 100, 4);
        Check.due("events", 78, () -> x.events(0, 1));
        Tale.decides(x, 0, 1);
        Tale.behind(x, 0, 77, "DONE 0 4, DECIDED 1 0, OVER 21 4");

        Flowkeeper y = Tale.started(3, SET, 5, 0, ACT, 0, 0);
        fill(y, 0, 76);
        Tale.decides(y, 0, 1);
        Tale.behind(y, 0, 76, "DECIDED 1 0, OVER 22 8");
        Tale.stands(y, 0, FAILED, 0, NONE);
        Check.due("nothing was decided", 0, () -> y.ready(0));
        Flowkeeper z = Tale.started(3, WAIT, 0, 0);
        fill(z, 0, 76);
        Tale.decides(z, 0, 0);
        Tale.stands(z, 0, RUNNING, 3, 0);
        Flowkeeper w = Tale.started(3, WAIT, 0, 0);
        fill(w, 0, 77);
        Tale.decides(w, 0, 1);
        Tale.stands(w, 0, FAILED, 0, NONE);
    }

    /** A decision that ends the run may leave 80 events. */
    private static void eighty() {
        Flowkeeper x = Tale.started(3, TELL, 0, 5);
        fill(x, 0, 77);
        Tale.decides(x, 0, 2);
        Tale.behind(x, 0, 77, "DECIDED 1 0, TOLD 0 5, OVER 21 3");
        Check.due("events", 80, () -> x.events(0, 1));
        Flowkeeper y = Tale.started(3, TELL, 0, 5);
        fill(y, 0, 78);
        Tale.decides(y, 0, 1);
        Tale.behind(y, 0, 78, "DECIDED 1 0, OVER 22 8");
        Check.due("what is not decided is not told", 0, () -> y.property(0, 0));
        Tale.stands(y, 0, FAILED, 0, NONE);
        // AGAIN ends a run, too; its signals go to the next one, which is full of them.
        Flowkeeper z = Tale.started(3, AGAIN, 0, 0);
        fill(z, 0, 77);
        Tale.cancels(z, 0);
        Tale.decides(z, 0, 1);
        Check.due("events of the run 1", 80, () -> z.events(0, 1));
        Check.due("events of the run 2", 78, () -> z.events(0, 2));
        Check.due("the CANCEL behind the signals", 6, () -> z.eventKind(0, 2, 77));
        // A great many things decided at once.
        Flowkeeper v = Tale.started(0, TELL, 0, 1, TELL, 0, 1, TELL, 0, 1, TELL, 0, 1, TELL, 0, 1, TELL, 0, 1,
                TELL, 0, 1, TELL, 0, 1, WAIT, 0, 0, BACK, 99, 9);
        for (int i = 0; i < 12; i++) {
            Tale.signals(v, 0, 0, i);
        }
        Tale.decides(v, 0, 1);
        Tale.behind(v, 0, 13, "DECIDED 1 0, OVER 22 8");
        Tale.stands(v, 0, FAILED, 0, NONE);
    }

    /** Nothing is undone, the activities are taken off, the register stays as it was. */
    private static void tooLongLeavesAll() {
        Flowkeeper x = Tale.started(3, UNDO, 0, 0, SIDE, 2, 0, ACT, 0, 0, WAIT, 0, 0, SET, 1, 0, TELL, 0, 1, TELL, 0, 1,
                ACT, 1, 0);
        x.decide(0, 1);
        Check.due("take", 100, () -> x.take(1, 0));
        fill(x, 0, 77);
        Tale.decides(x, 0, 1);
        Tale.behind(x, 0, 77, "DECIDED 1 0, OVER 22 8");
        Tale.stands(x, 0, FAILED, 3, NONE);
        Check.due("has", NONE, () -> x.has(1));
        Check.due("ready", 0, () -> x.ready(0));
    }

    private static void tooLongAnew() {
        Flowkeeper x = Tale.started(3, WAIT, 0, 0);
        Check.due("nothing decided", 0, () -> x.registerAnew(0, 1));
        fill(x, 0, 78);
        x.decide(0, 1);
        Check.due("the program does not decide OVER", -2000, () -> x.registerAnew(0, 1));
    }

    /** A program that would decide just the OVER that stands there is not told from it. */
    private static void tooLongAsTold() {
        Flowkeeper x = Tale.started(3, WAIT, 0, 0);
        Tale.version(x, 0, SET, 44, 0, FAIL, 8, 0);
        Tale.version(x, 0, SET, 44, 0, MARK, 1, 1, TELL, 0, 0, FAIL, 8, 0);
        fill(x, 0, 78);
        x.decide(0, 1);
        Check.due("registerAnew of version 2", 44, () -> x.registerAnew(0, 2));
        Check.due("registerAnew of version 3: the mark is left out", 44, () -> x.registerAnew(0, 3));
        Check.due("register", 0, () -> x.register(0));
    }

    private static void lostThings() {
        // DONE, LOST and FIRED are lost if the history is full; the activity is over all the same.
        Flowkeeper x = Tale.started(3, SIDE, 3, 0, ACT, 0, 0, ACT, 1, 0, TIMER, 30, 0);
        x.decide(0, 1);
        fill(x, 0, 78);
        Check.due("take", 100, () -> x.take(0, 0));
        Check.due("end", 0, () -> Check.truth(x.end(0, 5)));
        Check.due("has", NONE, () -> x.has(0));
        Tale.loses(x, 0, 101);
        x.tick(40);
        Check.due("ready", 0, () -> x.ready(0));
        Check.due("events", 78, () -> x.events(0, 1));
    }
}
