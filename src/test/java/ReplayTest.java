/** Promises 9 and 33: decide and registerAnew, as they hold a version against the history; and marks. */
final class ReplayTest implements Words {
    public static void main(String[] args) {
        wrongCalls();
        nothingToDo();
        mismatches();
        nothingChanges();
        newBranch();
        marks();
        marksInLoops();
        marksOfOne();
        anew();
        anewOfThingsSince();
        versionsTold();
        Check.done("ReplayTest");
    }

    private static void wrongCalls() {
        Flowkeeper x = Tale.started(4, END, 0, 0);
        Tale.version(x, 1, SET, 1, 0);
        Tale.version(x, 1, SET, 1, 0);
        for (int w : new int[] {-1, 1, Integer.MIN_VALUE, Integer.MAX_VALUE}) {
            Check.outside("decide for " + w, () -> x.decide(w, 1));
            Check.outside("registerAnew of " + w, () -> x.registerAnew(w, 1));
        }
        for (int v : new int[] {-1, 0, 2, Integer.MIN_VALUE, Integer.MAX_VALUE}) {
            Check.outside("decide with version " + v, () -> x.decide(0, v));
            Check.outside("registerAnew with version " + v, () -> x.registerAnew(0, v));
        }
        Tale.all(x, 0, "STARTED 4 0");
        Tale.decides(x, 0, 1);
        Check.state("decide for one that is over", () -> x.decide(0, 1));
        Check.outside("no such version, ahead of that", () -> x.decide(0, 2));
        Tale.all(x, 0, "STARTED 4 0, DECIDED 1 0, OVER 21 4");
        Tale.tell(x, 0, ACT, 0, 0);
        Check.outside("a version that is not released", () -> x.registerAnew(0, 2));
    }

    private static void nothingToDo() {
        Flowkeeper x = Tale.started(4, ACT, 0, 0, ACT, 1, 0);
        Tale.version(x, 0, ACT, 5, 0);
        x.decide(0, 1);
        Check.due("nothing has happened", NONE, () -> x.decide(0, 1));
        Check.due("that is asked ahead of what differs", NONE, () -> x.decide(0, 2));
        Tale.all(x, 0, "STARTED 4 0, DECIDED 1 0, ACTIVITY 0 0");
        Tale.signals(x, 0, 0, 0);
        Check.due("something has happened", MISMATCH, () -> x.decide(0, 2));
        Check.due("nothing is decided", 0, () -> x.decide(0, 1));
        Tale.behind(x, 0, 3, "SIGNAL 0 0, DECIDED 1 0");
        Check.due("nothing has happened", NONE, () -> x.decide(0, 1));
    }

    /** The version 1 against others, each of which differs in one thing. */
    private static void mismatches() {
        int[][] others = {
            {ACT, 2, 1, CHILD, 2, 1, TIMER, 5, 0, WAIT, 0, 0},
            {ACT, 1, 0, CHILD, 2, 1, TIMER, 5, 0, WAIT, 0, 0},
            {ACT, 1, 1, CHILD, 1, 1, TIMER, 5, 0, WAIT, 0, 0},
            {ACT, 1, 1, CHILD, 2, 2, TIMER, 5, 0, WAIT, 0, 0},
            {ACT, 1, 1, CHILD, 2, 1, TIMER, 6, 0, WAIT, 0, 0},
            {ACT, 1, 1, CHILD, 2, 1, WAIT, 0, 0},
            {ACT, 1, 1, CHILD, 2, 1},
            {ACT, 1, 1, TELL, 0, 0, CHILD, 2, 1, TIMER, 5, 0, WAIT, 0, 0},
            {TELL, 0, 0, ACT, 1, 1, CHILD, 2, 1, TIMER, 5, 0, WAIT, 0, 0},
            {ACT, 1, 1, CHILD, 2, 1, TIMER, 5, 0, TELL, 1, 1, WAIT, 0, 0},
            {ACT, 1, 1, CHILD, 2, 1, TIMER, 5, 0, END, 0, 0},
            {SIDE, 2, 0, ACT, 1, 1, CHILD, 2, 1, TIMER, 5, 0, WAIT, 0, 0},
            {UNDO, 1, 1, FAIL, 1, 0}};
        int[][] fits = {
            {SIDE, 1, 0, ACT, 1, 1, CHILD, 2, 1, TIMER, 5, 0, WAIT, 0, 0},
            {SKIP, 50, 1, ACT, 5, 0, ACT, 1, 1, CHILD, 2, 1, WAIT, 2, 5, SET, 1, 0, WAIT, 1, 0},
            {ACT, 1, 1, CHILD, 2, 1, TIMER, 5, 0, SET, 99, 0, WAIT, 0, 50, ACT, 0, 0},
            {ACT, 1, 1, MARK, 3, 2, ACT, 0, 0, ACT, 0, 0, CHILD, 2, 1, TIMER, 5, 0, WAIT, 0, 0}};
        for (int[] other : others) {
            Flowkeeper x = told(other);
            Check.due("registerAnew with what differs", -2000, () -> x.registerAnew(0, 2));
            Check.due("decide with what differs", MISMATCH, () -> x.decide(0, 2));
        }
        for (int i = 0; i < fits.length; i++) {
            Flowkeeper x = told(fits[i]);
            int n = i;
            int events = x.events(0, 1);
            // The third one sets its timer where the history has none: it differs all the same.
            Check.due("decide with fitting " + i, n == 2 ? MISMATCH : 0, () -> x.decide(0, 2));
            Check.due("events", n == 2 ? events : events + 1, () -> x.events(0, 1));
        }
    }

    private static Flowkeeper told(int[] second) {
        Flowkeeper x = Tale.started(4, ACT, 1, 1, CHILD, 2, 1, TIMER, 5, 0, WAIT, 0, 0);
        Tale.version(x, 0, second);
        Tale.version(x, 2, SET, 6, 0);
        x.decide(0, 1);
        Tale.does(x, 1, 100, 1);
        x.decide(0, 1);
        x.decide(1, 1);
        x.decide(0, 1);
        x.tick(5);
        x.decide(0, 1);
        Tale.signals(x, 0, 2, 3);
        return x;
    }

    private static void nothingChanges() {
        Flowkeeper x = Tale.started(4, ACT, 1, 1, WAIT, 0, 0);
        Tale.version(x, 0, ACT, 1, 1, TELL, 0, 7, ACT, 0, 0, CHILD, 0, 0);
        Tale.version(x, 0, ACT, 1, 0, TELL, 0, 7);
        x.decide(0, 1);
        Tale.does(x, 1, 100, 1);
        x.decide(0, 1);
        Tale.signals(x, 0, 0, 3);
        String before = Tale.history(x, 0, 1);
        Check.due("decide with version 2", MISMATCH, () -> x.decide(0, 2));
        Check.due("decide with version 3", MISMATCH, () -> x.decide(0, 3));
        Check.due("registerAnew with version 2", -2000, () -> x.registerAnew(0, 2));
        Check.same("history", before, Tale.history(x, 0, 1));
        Tale.stands(x, 0, RUNNING, 1, 1);
        Check.due("property", 0, () -> x.property(0, 0));
        Check.due("ready", 0, () -> x.ready(0) + x.ready(1));
        Tale.decides(x, 0, 1);
        Tale.stands(x, 0, ENDED, 3, NONE);
    }

    /** What was decided by one version goes on by another one if that does the same so far. */
    private static void newBranch() {
        Flowkeeper x = Tale.started(4, ACT, 1, 1, ACT, 2, 0);
        Tale.version(x, 0, ACT, 1, 1, ADD, 1, 0, ACT, 3, 1);
        x.decide(0, 1);
        Tale.does(x, 1, 100, 1);
        Check.due("decide with version 2", 1, () -> x.decide(0, 2));
        Tale.behind(x, 0, 3, "DONE 0 1, DECIDED 2 0, ACTIVITY 3 1");
        Tale.stands(x, 0, RUNNING, 2, 2);
        Tale.does(x, 1, 101, 1);
        Check.due("decide with version 1", MISMATCH, () -> x.decide(0, 1));
        Check.due("decide with version 2", 1, () -> x.decide(0, 2));
    }

    private static void marks() {
        Flowkeeper x = Tale.started(4, ACT, 1, 0, TIMER, 9, 0);
        Tale.version(x, 0, MARK, 2, 1, TELL, 0, 1, ACT, 1, 0, MARK, 3, 2, TELL, 1, 2, ACT, 5, 1, TIMER, 9, 0);
        x.start(0, 0, 5);
        Tale.decides(x, 0, 1);
        Tale.does(x, 0, 100, 8);
        // The first mark was gone past without it, the second is new.
        Check.due("decide with version 2", 3, () -> x.decide(0, 2));
        Tale.behind(x, 0, 4, "DECIDED 2 0, MARKED 3 0, TOLD 1 2, ACTIVITY 5 1");
        Tale.stands(x, 0, RUNNING, 8, 5);
        Check.due("registerAnew", 8, () -> x.registerAnew(0, 2));
        Tale.does(x, 1, 101, 9);
        Check.due("decide with version 2", 1, () -> x.decide(0, 2));
        Tale.behind(x, 0, 8, "DONE 1 9, DECIDED 2 0, TIMER_SET 9 0");
        // With both marks from the beginning.
        Check.due("decide with version 2", 3, () -> x.decide(1, 2));
        Tale.all(x, 1, "STARTED 5 0, DECIDED 2 0, MARKED 2 0, TOLD 0 1, ACTIVITY 1 0");
        Check.due("decide with version 1: it is marked", NONE, () -> x.decide(1, 1));
        Check.due("registerAnew with version 1", -2000, () -> x.registerAnew(1, 1));
        // Decided by the first version again: both are left out.
        Flowkeeper y = Tale.started(4, ACT, 1, 0, TIMER, 9, 0);
        Tale.version(y, 0, MARK, 2, 1, TELL, 0, 1, ACT, 1, 0, MARK, 3, 2, TELL, 1, 2, ACT, 5, 1, TIMER, 9, 0, MARK, 0, 1,
                SET, 7, 0);
        y.decide(0, 1);
        Tale.does(y, 0, 100, 8);
        y.decide(0, 1);
        y.tick(9);
        Check.due("registerAnew", 8, () -> y.registerAnew(0, 2));
        Check.due("decide with version 2", 2, () -> y.decide(0, 2));
        Tale.behind(y, 0, 4, "DECIDED 1 0, TIMER_SET 9 0, FIRED 0 0, DECIDED 2 0, MARKED 0 0, OVER 21 7");
        Check.due("registerAnew", 7, () -> y.registerAnew(0, 2));
    }

    /** A mark is MARKED once, and holds from then on. */
    private static void marksInLoops() {
        Flowkeeper x = Tale.started(0, MARK, 1, 1, TELL, 0, 100, ADD, 1, 0, ACT, 0, 0, BACK, 3, 4);
        Tale.decides(x, 0, 3);
        Tale.does(x, 0, 100, 2);
        Tale.decides(x, 0, 2);
        Tale.all(x, 0, "STARTED 0 0, DECIDED 1 0, MARKED 1 0, TOLD 0 0, ACTIVITY 0 0, DONE 0 2, DECIDED 1 0, "
                + "TOLD 0 2, ACTIVITY 0 0");
        // Left out while it is played again, MARKED in what is new.
        Flowkeeper y = Tale.started(0, ACT, 0, 0, BACK, 9, 1);
        Tale.version(y, 0, MARK, 1, 1, TELL, 0, 100, ACT, 0, 0, BACK, 9, 3);
        Tale.decides(y, 0, 1);
        Tale.does(y, 0, 100, 2);
        Check.due("decide with version 2", 3, () -> y.decide(0, 2));
        Tale.behind(y, 0, 4, "DECIDED 2 0, MARKED 1 0, TOLD 0 2, ACTIVITY 0 0");
        Tale.does(y, 0, 101, 3);
        Check.due("decide with version 2", 2, () -> y.decide(0, 2));
        Tale.behind(y, 0, 9, "DECIDED 2 0, TOLD 0 3, ACTIVITY 0 0");
        Check.due("registerAnew with version 2", 3, () -> y.registerAnew(0, 2));
        Check.due("registerAnew with version 1", -2000, () -> y.registerAnew(0, 1));
    }

    private static void marksOfOne() {
        // Another mark stands at this place: this one is left out, and that one held.
        Flowkeeper x = Tale.started(0, MARK, 1, 1, SET, 5, 0, WAIT, 0, 0);
        Tale.version(x, 0, MARK, 0, 1, SET, 9, 0, MARK, 1, 1, SET, 5, 0, WAIT, 0, 0);
        Tale.version(x, 0, MARK, 0, 1, SET, 9, 0, WAIT, 0, 0);
        Tale.decides(x, 0, 1);
        Tale.all(x, 0, "STARTED 0 0, DECIDED 1 0, MARKED 1 0");
        Check.due("registerAnew with version 2", 5, () -> x.registerAnew(0, 2));
        Check.due("registerAnew with version 3", -2000, () -> x.registerAnew(0, 3));
        // Nothing follows: left out.
        Flowkeeper y = Tale.started(1, WAIT, 0, 0);
        Tale.version(y, 0, MARK, 0, 1, SET, 9, 0, WAIT, 0, 0);
        Tale.decides(y, 0, 0);
        Check.due("registerAnew", 1, () -> y.registerAnew(0, 2));
        // A second MARK of the same mark goes on.
        Flowkeeper z = Tale.started(1, MARK, 3, 1, TELL, 0, 1, MARK, 3, 1, TELL, 0, 2, MARK, 2, 1, TELL, 0, 3);
        Tale.decides(z, 0, 6);
        Tale.behind(z, 0, 2, "MARKED 3 0, TOLD 0 1, TOLD 0 2, MARKED 2 0, TOLD 0 3, OVER 21 1");
    }

    private static void anew() {
        Flowkeeper x = Tale.started(4, ACT, 1, 1, WAIT, 0, 0);
        Tale.version(x, 0, ACT, 1, 1, ADD, 5, 0, WAIT, 1, 0);
        Check.due("nothing decided", 0, () -> x.registerAnew(0, 1));
        x.decide(0, 1);
        Check.due("register", 4, () -> x.registerAnew(0, 1));
        Tale.does(x, 1, 100, 20);
        x.decide(0, 1);
        Check.due("register", 20, () -> x.registerAnew(0, 1));
        Check.due("register of version 2", 25, () -> x.registerAnew(0, 2));
        Check.due("register stays", 20, () -> x.register(0));
        Tale.signals(x, 0, 0, 3);
        x.decide(0, 1);
        Check.due("register of what ENDED", 3, () -> x.registerAnew(0, 1));
        Check.due("version 2 does not end", -2000, () -> x.registerAnew(0, 2));
        // One that is undoing.
        Flowkeeper y = Tale.started(4, UNDO, 0, 0, SET, 8, 0, FAIL, 1, 0);
        Tale.version(y, 0, SET, 9, 0, UNDO, 0, 0, FAIL, 2, 0);
        y.decide(0, 1);
        Check.due("register of one that fails", 9, () -> y.registerAnew(0, 2));
        Tale.does(y, 0, 100, 1);
        y.decide(0, 1);
        Check.due("it fails with another number", -2000, () -> y.registerAnew(0, 2));
        Check.due("registerAnew", 8, () -> y.registerAnew(0, 1));
    }

    /** What has happened since the latest decision is not taken. */
    private static void anewOfThingsSince() {
        Flowkeeper x = Tale.started(4, WAIT, 0, 0, WAIT, 0, 0, TELL, 0, 0);
        x.decide(0, 1);
        Tale.signals(x, 0, 0, 7);
        Check.due("registerAnew", 4, () -> x.registerAnew(0, 1));
        Check.due("register", 4, () -> x.register(0));
        x.decide(0, 1);
        Check.due("registerAnew", 7, () -> x.registerAnew(0, 1));
        Tale.all(x, 0, "STARTED 4 0, DECIDED 1 0, SIGNAL 0 7, DECIDED 1 0");
    }

    private static void versionsTold() {
        Flowkeeper x = Tale.started(4, WAIT, 0, 0);
        for (int i = 0; i < 3; i++) {
            Tale.version(x, 0, WAIT, 0, 0);
        }
        for (int i = 4; i >= 1; i--) {
            int n = i;
            Check.due("decide with version " + i, 0, () -> x.decide(0, n));
            Tale.signals(x, 0, 1, i);
        }
        Tale.all(x, 0, "STARTED 4 0, DECIDED 4 0, SIGNAL 1 4, DECIDED 3 0, SIGNAL 1 3, DECIDED 2 0, SIGNAL 1 2, "
                + "DECIDED 1 0, SIGNAL 1 1");
    }
}
