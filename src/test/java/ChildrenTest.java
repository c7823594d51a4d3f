/** Children, what becomes of them when their parents end, and going on as new. */
final class ChildrenTest implements Words {
    public static void main(String[] args) {
        made();
        endsFirst();
        failsFirst();
        goesOnAsNew();
        registerOfParent();
        sideOfChildren();
        noRoom();
        noRoomForSome();
        noRoomAndCut();
        whatWasTold();
        stoppedDeep();
        overAlready();
        stoppedRunOfMany();
        parentIsAnotherRun();
        fullParent();
        againSignals();
        againInOneDecision();
        againLeavesNothing();
        Check.done("ChildrenTest");
    }

    private static void made() {
        Flowkeeper x = new Flowkeeper();
        Tale.version(x, 0, CHILD, 2, 1, ACT, 0, 0);
        x.start(0, 2, -99);
        Check.due("parent of one that was started", NONE, () -> x.parent(0));
        Tale.decides(x, 0, 1);
        Tale.all(x, 0, "STARTED -99 0, DECIDED 1 0, CHILD_MADE 2 1");
        Tale.stands(x, 0, RUNNING, -99, 0);
        Check.due("workflows", 2, x::workflows);
        Check.due("parent", 0, () -> x.parent(1));
        Tale.all(x, 1, "STARTED -99 0");
        Tale.stands(x, 1, RUNNING, 0, NONE);
        Check.outside("its type has no version", () -> x.decide(1, 1));
        Tale.version(x, 2, ACT, 1, 1);
        Tale.decides(x, 1, 1);
        Check.due("it has the tenant of its parent", 1100, () -> x.take(0, 1));
        Check.due("taken of the tenant 2", 1, () -> x.taken(1, 2));
    }

    private static Flowkeeper family(int... parent) {
        Flowkeeper x = new Flowkeeper();
        Tale.version(x, 0, parent);
        Tale.version(x, 1, WAIT, 0, 0);
        Tale.version(x, 2, CHILD, 1, 2);
        x.start(0, 0, 5);
        x.decide(0, 1);
        return x;
    }

    private static void endsFirst() {
        Flowkeeper x = family(CHILD, 1, 0, TELL, 0, 100);
        x.decide(1, 1);
        Tale.signals(x, 1, 0, 77);
        Tale.decides(x, 1, 1);
        Tale.behind(x, 0, 3, "CHILD_OVER 0 77");
        Tale.decides(x, 0, 2);
        Tale.behind(x, 0, 4, "DECIDED 1 0, TOLD 0 77, OVER 21 77");
    }

    private static void failsFirst() {
        Flowkeeper x = family(CHILD, 1, 0, CHILD, 1, 0, CHILD, 1, 0);
        Tale.cancels(x, 1);
        Tale.decides(x, 1, 1);
        Tale.behind(x, 0, 3, "CHILD_OVER 0 -1");
        Tale.decides(x, 0, 1);
        Tale.stands(x, 0, RUNNING, -1, 1);
        Tale.all(x, 2, "STARTED -1 0");
        Tale.version(x, 1, FAIL, 3, 0);
        Check.due("decide with version 2", 1, () -> x.decide(2, 2));
        Tale.behind(x, 0, 6, "CHILD_OVER 1 -1");
        Tale.decides(x, 0, 1);
        for (int i = 0; i < 77; i++) {
            Tale.signals(x, 3, 1, 0);
        }
        Tale.decides(x, 3, 1);
        Tale.stands(x, 3, FAILED, 0, NONE);
        Tale.behind(x, 0, 9, "CHILD_OVER 2 -1");
    }

    /** A child that goes on as new is not over. */
    private static void goesOnAsNew() {
        Flowkeeper x = new Flowkeeper();
        Tale.version(x, 0, CHILD, 1, 0);
        Tale.version(x, 1, ADD, 1, 0, SKIP, 7, 1, END, 0, 0, AGAIN, 0, 0);
        x.start(0, 0, 5);
        x.decide(0, 1);
        Tale.decides(x, 1, 1);
        Check.due("runs of the child", 2, () -> x.runs(1));
        Check.due("events of the parent", 3, () -> x.events(0, 1));
        Check.due("its parent stays", 0, () -> x.parent(1));
        Tale.decides(x, 1, 1);
        Tale.behind(x, 0, 3, "CHILD_OVER 0 7");
    }

    private static void registerOfParent() {
        Flowkeeper x = new Flowkeeper();
        Tale.version(x, 0, ADD, 99, 0, ADD, 99, 0, CHILD, 0, 0);
        x.start(0, 0, 99);
        x.decide(0, 1);
        Tale.all(x, 1, "STARTED 297 0");
        Flowkeeper y = new Flowkeeper();
        Tale.version(y, 0, ACT, 0, 0, SIDE, 2, 0, WAIT, 0, 0, CHILD, 1, 0);
        Tale.version(y, 1, END, 0, 0);
        y.start(0, 0, 1);
        y.decide(0, 1);
        Tale.signals(y, 0, 0, 9);
        Tale.does(y, 0, 100, 4);
        Tale.decides(y, 0, 1);
        Tale.all(y, 1, "STARTED 4 0");
        Tale.stands(y, 0, RUNNING, 4, 1);
    }

    private static void sideOfChildren() {
        Flowkeeper x = family(SIDE, 3, 0, CHILD, 1, 0, ACT, 0, 0, CHILD, 1, 0);
        Tale.all(x, 0, "STARTED 5 0, DECIDED 1 0, CHILD_MADE 1 0, ACTIVITY 0 0, CHILD_MADE 1 0");
        x.decide(1, 1);
        x.decide(2, 1);
        Tale.signals(x, 2, 0, 20);
        x.decide(2, 1);
        Tale.does(x, 0, 100, 30);
        Tale.decides(x, 0, 0);
        Tale.signals(x, 1, 0, 10);
        x.decide(1, 1);
        Tale.decides(x, 0, 1);
        Tale.behind(x, 0, 5, "CHILD_OVER 1 20, DONE 0 30, DECIDED 1 0, CHILD_OVER 0 10, DECIDED 1 0, OVER 21 20");
    }

    private static void noRoom() {
        Flowkeeper x = new Flowkeeper();
        Tale.version(x, 0, CHILD, 1, 2, TELL, 0, 100, ACT, 0, 0);
        for (int i = 0; i < 10; i++) {
            int n = i;
            Check.due("start", n, () -> x.start(0, 0, 5));
        }
        Check.state("an eleventh one", () -> x.start(0, 0, 5));
        Tale.decides(x, 9, 1);
        Tale.all(x, 9, "STARTED 5 0, DECIDED 1 0, CHILD_MADE 1 2, CHILD_OVER 0 -1");
        Check.holds("it is due", () -> Check.truth(x.isDue(9)));
        Tale.stands(x, 9, RUNNING, 5, 0);
        Tale.decides(x, 9, 2);
        Tale.behind(x, 9, 4, "DECIDED 1 0, TOLD 0 -1, ACTIVITY 0 0");
        Check.due("workflows", 10, x::workflows);
    }

    private static void noRoomForSome() {
        Flowkeeper x = new Flowkeeper();
        Tale.version(x, 0, SIDE, 3, 0, CHILD, 1, 0, CHILD, 1, 0, CHILD, 1, 0, CHILD, 1, 0);
        for (int i = 0; i < 9; i++) {
            x.start(0, 0, i);
        }
        Tale.decides(x, 4, 3);
        Tale.behind(x, 4, 2, "CHILD_MADE 1 0, CHILD_MADE 1 0, CHILD_MADE 1 0, CHILD_OVER 1 -1, CHILD_OVER 2 -1");
        Check.due("parent of the last one", 4, () -> x.parent(9));
        Tale.decides(x, 4, 0);
        Tale.version(x, 1, SET, 8, 0);
        Tale.decides(x, 9, 1);
        Tale.decides(x, 4, 1);
        Tale.behind(x, 4, 8, "CHILD_OVER 0 8, DECIDED 1 0, CHILD_MADE 1 0, CHILD_OVER 3 -1");
    }

    /** What is over takes nothing more, no CHILD_OVER either. */
    private static void noRoomAndCut() {
        Flowkeeper x = new Flowkeeper();
        Tale.version(x, 0, CHILD, 1, 0);
        for (int i = 0; i < 10; i++) {
            x.start(0, 0, i);
        }
        Tale.cancels(x, 3);
        Tale.decides(x, 3, 2);
        Tale.behind(x, 3, 2, "DECIDED 1 0, CHILD_MADE 1 0, OVER 23 0");
    }

    private static void whatWasTold() {
        Flowkeeper x = family(SIDE, 3, 0, CHILD, 1, 0, CHILD, 1, 1, CHILD, 1, 2);
        for (int i = 1; i <= 3; i++) {
            x.decide(i, 1);
        }
        Tale.cancels(x, 0);
        Tale.decides(x, 0, 1);
        Tale.behind(x, 0, 5, "CANCEL 0 0, DECIDED 1 0, OVER 23 0");
        Tale.all(x, 1, "STARTED 5 0, DECIDED 1 0");
        Tale.all(x, 2, "STARTED 5 0, DECIDED 1 0, CANCEL 0 0");
        Tale.all(x, 3, "STARTED 5 0, DECIDED 1 0");
        Tale.stands(x, 1, RUNNING, 5, 0);
        Tale.stands(x, 2, RUNNING, 5, 0);
        Tale.stands(x, 3, STOPPED, 5, NONE);
        Check.due("asked for already", 0, () -> Check.truth(x.cancel(2)));
        Check.due("no signal to one that is STOPPED", 0, () -> Check.truth(x.signal(3, 0, 0)));
        Check.due("no cancel either", 0, () -> Check.truth(x.cancel(3)));
        Check.due("it is not due", 0, () -> Check.truth(x.isDue(3)));
        Check.state("nor decided for", () -> x.decide(3, 1));
        Check.due("it can be played again", 5, () -> x.registerAnew(3, 1));
        Check.due("found", 2, () -> x.found(0, 0, 0));
        Tale.signals(x, 1, 0, 3);
        Tale.decides(x, 1, 1);
        Check.due("the parent is over and takes nothing", 8, () -> x.events(0, 1));
    }

    /** A STOPPED child's activities, timers and children go the same way. */
    private static void stoppedDeep() {
        Flowkeeper x = new Flowkeeper();
        Tale.version(x, 0, CHILD, 1, 2);
        Tale.version(x, 1, SIDE, 3, 0, ACT, 0, 0, TIMER, 3, 0, CHILD, 2, 2);
        Tale.version(x, 2, SIDE, 3, 0, ACT, 1, 0, CHILD, 1, 1, TIMER, 2, 0);
        x.start(0, 0, 5);
        for (int i = 0; i < 3; i++) {
            x.decide(i, 1);
        }
        Check.due("workflows", 4, x::workflows);
        Check.due("take", 1100, () -> x.take(0, 0));
        Check.due("ready", 1, () -> x.ready(0));
        Tale.cancels(x, 0);
        Tale.decides(x, 0, 1);
        Check.due("has", NONE, () -> x.has(0));
        Check.due("ready", 0, () -> x.ready(0));
        x.tick(5);
        Tale.stands(x, 1, STOPPED, 5, NONE);
        Tale.stands(x, 2, STOPPED, 5, NONE);
        Tale.all(x, 1, "STARTED 5 0, DECIDED 1 0, ACTIVITY 0 0, TIMER_SET 3 0, CHILD_MADE 2 2");
        Tale.all(x, 2, "STARTED 5 0, DECIDED 1 0, ACTIVITY 1 0, CHILD_MADE 1 1, TIMER_SET 2 0");
        Tale.stands(x, 3, RUNNING, 0, NONE);
        Tale.all(x, 3, "STARTED 5 0, CANCEL 0 0");
    }

    /** Only children that are RUNNING, and only its own. */
    private static void overAlready() {
        Flowkeeper x = family(CHILD, 1, 2, CHILD, 1, 2);
        x.decide(1, 1);
        Tale.signals(x, 1, 0, 4);
        x.decide(1, 1);
        x.decide(0, 1);
        x.start(0, 0, 0);
        x.decide(3, 1);
        x.decide(4, 1);
        Tale.cancels(x, 0);
        Tale.decides(x, 0, 1);
        Tale.stands(x, 1, ENDED, 4, NONE);
        Tale.stands(x, 2, STOPPED, 0, NONE);
        Tale.stands(x, 3, RUNNING, 0, 0);
        Tale.stands(x, 4, RUNNING, 0, 0);
    }

    private static void stoppedRunOfMany() {
        Flowkeeper x = new Flowkeeper();
        Tale.version(x, 0, CHILD, 1, 2);
        Tale.version(x, 1, WAIT, 0, 0, AGAIN, 0, 0);
        x.start(0, 0, 5);
        x.decide(0, 1);
        Tale.signals(x, 1, 0, 1);
        Tale.decides(x, 1, 1);
        Tale.cancels(x, 0);
        x.decide(0, 1);
        Check.due("the first run is over by itself", AGAIN, () -> x.state(1, 1));
        Check.due("the latest run is STOPPED", STOPPED, () -> x.state(1, 2));
        Check.due("registerAnew: nothing was decided", 0, () -> x.registerAnew(1, 1));
    }

    /** CHILD_OVER happens to the run that made the child, and to no later one. */
    private static void parentIsAnotherRun() {
        Flowkeeper x = new Flowkeeper();
        Tale.version(x, 0, SKIP, 5, 1, CHILD, 1, 0, ACT, 0, 0, SET, 4, 0, AGAIN, 0, 0);
        Tale.version(x, 1, SET, 3, 0);
        x.start(0, 0, 5);
        Tale.decides(x, 0, 1);
        Tale.decides(x, 1, 1);
        Tale.decides(x, 0, 1);
        Tale.does(x, 0, 100, 1);
        Tale.decides(x, 0, 1);
        Check.due("runs", 2, () -> x.runs(0));
        Tale.decides(x, 0, 1);
        Tale.does(x, 0, 200, 1);
        Tale.decides(x, 0, 1);
        Tale.all(x, 0, "STARTED 4 0");
        Check.due("runs", 3, () -> x.runs(0));
    }

    private static void fullParent() {
        Flowkeeper x = family(CHILD, 1, 1);
        x.decide(1, 1);
        while (x.events(0, 1) < 78) {
            Tale.signals(x, 0, 2, 0);
        }
        Tale.signals(x, 1, 0, 0);
        Tale.decides(x, 1, 1);
        Check.due("CHILD_OVER is lost", 78, () -> x.events(0, 1));
        // The parent asks a child to cancel whose history is full: that is lost, too.
        Flowkeeper y = family(CHILD, 1, 1);
        while (y.events(1, 1) < 78) {
            Tale.signals(y, 1, 2, 0);
        }
        Tale.cancels(y, 0);
        Tale.decides(y, 0, 1);
        Check.due("CANCEL is lost", 78, () -> y.events(1, 1));
    }

    private static void againSignals() {
        Flowkeeper x = Tale.started(0, WAIT, 1, 0, UNDO, 0, 0, TELL, 1, 100, WAIT, 1, 0, AGAIN, 0, 0);
        x.decide(0, 1);
        Tale.signals(x, 0, 0, 1);
        Tale.signals(x, 0, 1, 2);
        Tale.decides(x, 0, 1);
        Tale.signals(x, 0, 2, 3);
        Tale.signals(x, 0, 1, 4);
        Tale.signals(x, 0, 1, 5);
        Tale.signals(x, 0, 0, 6);
        Tale.decides(x, 0, 1);
        Check.due("state of the run 1", AGAIN, () -> x.state(0, 1));
        Tale.stands(x, 0, RUNNING, 0, NONE);
        Tale.all(x, 0, "STARTED 4 0, SIGNAL 0 1, SIGNAL 2 3, SIGNAL 1 5, SIGNAL 0 6");
        Check.holds("it is due", () -> Check.truth(x.isDue(0)));
        Check.due("properties stay", 2, () -> x.property(0, 1));
        Check.due("nothing was decided", 0, () -> x.registerAnew(0, 1));
        Tale.decides(x, 0, 1);
        Tale.behind(x, 0, 5, "DECIDED 1 0, TOLD 1 5");
        Tale.stands(x, 0, RUNNING, 5, 3);
        // The list of what is to be undone is the run's own: one UNDO was gone through in this run.
        Tale.cancels(x, 0);
        Tale.decides(x, 0, 1);
        Tale.does(x, 0, 200, 0);
        Tale.decides(x, 0, 1);
        Tale.behind(x, 0, 11, "DECIDED 1 0, OVER 23 0");
    }

    /** What comes behind AGAIN in one decision was not taken. */
    private static void againInOneDecision() {
        Flowkeeper x = Tale.started(7, AGAIN, 0, 0);
        Tale.signals(x, 0, 2, 1);
        Tale.cancels(x, 0);
        Tale.signals(x, 0, 0, 2);
        Tale.decides(x, 0, 1);
        Tale.all(x, 0, "STARTED 7 0, SIGNAL 2 1, SIGNAL 0 2, CANCEL 0 0");
        Check.due("asked for in it", 0, () -> Check.truth(x.cancel(0)));
        Check.same("history of the run 1", "STARTED 7 0, SIGNAL 2 1, CANCEL 0 0, SIGNAL 0 2, DECIDED 1 0, OVER 14 7",
                Tale.history(x, 0, 1));
    }

    /** Marks, guards and numbers belong to one run. */
    private static void againLeavesNothing() {
        Flowkeeper x = Tale.started(0, MARK, 0, 1, TELL, 0, 1, GUARD, 9, 0, ACT, 0, 0, AGAIN, 0, 0);
        for (int run = 1; run <= 2; run++) {
            int n = run;
            Tale.decides(x, 0, 3);
            Tale.all(x, 0, "STARTED " + (run - 1) + " 0, DECIDED 1 0, MARKED 0 0, TOLD 0 1, ACTIVITY 0 0");
            Check.due("ready", 1, () -> x.ready(0));
            Tale.does(x, 0, 100 * n, n);
            Tale.decides(x, 0, 1);
        }
        Tale.version(x, 0, WAIT, 0, 0);
        Check.due("decide with version 2", 0, () -> x.decide(0, 2));
        Tale.cancels(x, 0);
        Check.due("decide with version 2", 1, () -> x.decide(0, 2));
        Tale.stands(x, 0, CANCELLED, 2, NONE);
    }
}
