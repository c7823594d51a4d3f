/** Promise 8: cancel; and what is cut behind it, and guarded from it. */
final class CutTest implements Words {
    public static void main(String[] args) {
        answers();
        cutAtOnce();
        cutSide();
        cutUndoes();
        cutInOneDecision();
        guarded();
        guardedEnd();
        guardsInGuards();
        guardCounts();
        againGuarded();
        failsGuarded();
        tooManySteps();
        Check.done("CutTest");
    }

    private static void answers() {
        Flowkeeper x = Tale.started(0, ACT, 0, 0);
        Check.outside("cancel(-1)", () -> x.cancel(-1));
        Check.outside("cancel(1)", () -> x.cancel(1));
        Tale.cancels(x, 0);
        Check.due("only once in a run", 0, () -> Check.truth(x.cancel(0)));
        Tale.all(x, 0, "STARTED 0 0, CANCEL 0 0");
        x.decide(0, 1);
        Check.due("not of one that is over", 0, () -> Check.truth(x.cancel(0)));
        Tale.stands(x, 0, CANCELLED, 0, NONE);
        x.start(0, 0, 0);
        for (int i = 0; i < 77; i++) {
            Tale.signals(x, 1, 0, 0);
        }
        Check.due("not if the history is full", 0, () -> Check.truth(x.cancel(1)));
        Check.due("events", 78, () -> x.events(1, 1));
    }

    private static void cutAtOnce() {
        Flowkeeper x = Tale.started(6, ACT, 0, 0, TELL, 0, 1);
        x.decide(0, 1);
        Check.due("take", 100, () -> x.take(2, 0));
        Tale.cancels(x, 0);
        Tale.decides(x, 0, 2);
        Tale.behind(x, 0, 3, "CANCEL 0 0, DECIDED 1 0, ACTIVITY_OFF 0 0, OVER 23 0");
        Check.due("who has it has nothing any more", NONE, () -> x.has(2));
        Check.state("and its end is too late", () -> x.end(2, 0));
        Tale.stands(x, 0, CANCELLED, 6, NONE);

        Flowkeeper y = Tale.started(6, TIMER, 2, 0);
        y.decide(0, 1);
        Tale.cancels(y, 0);
        y.tick(2);
        Tale.decides(y, 0, 2);
        Tale.behind(y, 0, 3, "CANCEL 0 0, FIRED 0 0, DECIDED 1 0, TIMER_OFF 0 0, OVER 23 0");

        Flowkeeper z = Tale.started(6, TIMER, 2, 0, ACT, 1, 1);
        z.decide(0, 1);
        z.tick(2);
        Tale.cancels(z, 0);
        Tale.decides(z, 0, 3);
        Tale.behind(z, 0, 3, "FIRED 0 0, CANCEL 0 0, DECIDED 1 0, ACTIVITY 1 1, ACTIVITY_OFF 0 0, OVER 23 0");
        Check.due("ready", 0, () -> z.ready(1));
    }

    private static void cutSide() {
        Flowkeeper x = Tale.started(6, ACT, 0, 0, SIDE, 3, 0, WAIT, 0, 9, ACT, 1, 0, TIMER, 9, 0);
        x.decide(0, 1);
        Tale.does(x, 0, 100, 0);
        x.decide(0, 1);
        Tale.cancels(x, 0);
        Tale.decides(x, 0, 4);
        Tale.behind(x, 0, 8, "CANCEL 0 0, DECIDED 1 0, ACTIVITY_OFF 1 0, TIMER_OFF 0 0, TIMER_OFF 1 0, OVER 23 0");

        Flowkeeper y = Tale.started(6, SIDE, 3, 0, WAIT, 0, 9, ACT, 1, 0, ACT, 2, 0);
        y.decide(0, 1);
        Tale.does(y, 0, 100, 0);
        Tale.signals(y, 0, 0, 0);
        y.decide(0, 1);
        Tale.cancels(y, 0);
        Tale.decides(y, 0, 2);
        Tale.behind(y, 0, 9, "CANCEL 0 0, DECIDED 1 0, ACTIVITY_OFF 1 0, OVER 23 0");
        Tale.stands(y, 0, CANCELLED, 6, NONE);
    }

    private static void cutUndoes() {
        Flowkeeper x = Tale.started(6, UNDO, 1, 1, UNDO, 2, 1, ACT, 0, 0);
        x.decide(0, 1);
        Check.due("take", 100, () -> x.take(3, 0));
        Tale.cancels(x, 0);
        Check.due("it has it up to the decision", 100, () -> x.has(3));
        Tale.decides(x, 0, 2);
        Check.due("it is off, whoever has it", NONE, () -> x.has(3));
        x.tick(20);
        Check.due("and not ready again", 0, () -> x.ready(0));
        Tale.behind(x, 0, 3, "CANCEL 0 0, DECIDED 1 0, ACTIVITY_OFF 0 0, UNDOING 2 1");
        Tale.stands(x, 0, RUNNING, 6, NONE);
        Tale.does(x, 1, 101, 5);
        Tale.decides(x, 0, 1);
        Tale.loses(x, 1, 102);
        Tale.decides(x, 0, 1);
        Tale.behind(x, 0, 7, "DONE 1 5, DECIDED 1 0, UNDOING 1 1, LOST 2 0, DECIDED 1 0, OVER 23 0");
        Tale.stands(x, 0, CANCELLED, 6, NONE);
        // Ready ones are taken off, too; and what was not off yet when it was done is nothing to the undoing.
        Flowkeeper y = Tale.started(6, UNDO, 1, 1, SIDE, 3, 0, ACT, 0, 0, ACT, 0, 0, TIMER, 7, 0);
        y.decide(0, 1);
        Tale.cancels(y, 0);
        Tale.does(y, 0, 100, 5);
        Tale.decides(y, 0, 4);
        Tale.behind(y, 0, 5, "CANCEL 0 0, DONE 0 5, DECIDED 1 0, ACTIVITY_OFF 0 0, ACTIVITY_OFF 1 0, TIMER_OFF 0 0, "
                + "UNDOING 1 1");
        Check.due("ready", 0, () -> y.ready(0));
        Check.due("the undoing is ready", 1, () -> y.ready(1));
        y.tick(7);
        Check.due("the timer does not fire", 12, () -> y.events(0, 1));
    }

    private static void cutInOneDecision() {
        Flowkeeper x = Tale.started(6, UNDO, 1, 1, WAIT, 0, 4);
        Tale.cancels(x, 0);
        Tale.signals(x, 0, 0, 1);
        Tale.decides(x, 0, 3);
        Tale.behind(x, 0, 3, "DECIDED 1 0, TIMER_SET 4 0, TIMER_OFF 0 0, UNDOING 1 1");
        // A run that is over before the CANCEL is heard is not cut.
        Flowkeeper y = Tale.started(6, SET, 5, 0);
        Tale.cancels(y, 0);
        Tale.decides(y, 0, 1);
        Tale.stands(y, 0, ENDED, 5, NONE);
    }

    private static void guarded() {
        Flowkeeper x = Tale.started(6, GUARD, 2, 0, ACT, 0, 0, TELL, 0, 100, TELL, 1, 100, ACT, 1, 1);
        x.decide(0, 1);
        Tale.cancels(x, 0);
        Tale.decides(x, 0, 0);
        Tale.stands(x, 0, RUNNING, 6, 1);
        Check.due("it is still ready", 1, () -> x.ready(0));
        Tale.does(x, 0, 100, 9);
        Tale.decides(x, 0, 2);
        Tale.behind(x, 0, 6, "DECIDED 1 0, TOLD 0 9, OVER 23 0");
        Check.due("property 1", 0, () -> x.property(0, 1));
        Tale.stands(x, 0, CANCELLED, 9, NONE);
        // A step that is guarded and another one that is not: cut where it waits.
        Flowkeeper y = Tale.started(6, GUARD, 1, 0, ACT, 0, 0, ACT, 1, 1);
        y.decide(0, 1);
        Tale.does(y, 0, 100, 9);
        y.decide(0, 1);
        Tale.cancels(y, 0);
        Tale.decides(y, 0, 2);
        Tale.behind(y, 0, 6, "CANCEL 0 0, DECIDED 1 0, ACTIVITY_OFF 1 0, OVER 23 0");
    }

    /** The END behind the last step is a step that can be guarded, too. */
    private static void guardedEnd() {
        Flowkeeper x = Tale.started(0, GUARD, 1, 0, ACT, 0, 0);
        x.decide(0, 1);
        Tale.cancels(x, 0);
        Tale.does(x, 0, 100, 9);
        Tale.decides(x, 0, 1);
        Tale.stands(x, 0, CANCELLED, 9, NONE);
        Flowkeeper y = Tale.started(0, GUARD, 2, 0, ACT, 0, 0);
        y.decide(0, 1);
        Tale.cancels(y, 0);
        Tale.does(y, 0, 100, 9);
        Tale.decides(y, 0, 1);
        Tale.stands(y, 0, ENDED, 9, NONE);
        Flowkeeper z = Tale.started(0, GUARD, 1, 0, ACT, 0, 0, END, 0, 0);
        z.decide(0, 1);
        Tale.cancels(z, 0);
        Tale.does(z, 0, 100, 9);
        Tale.decides(z, 0, 1);
        Tale.stands(z, 0, CANCELLED, 9, NONE);
    }

    private static void guardsInGuards() {
        // The inner one tells less than is left: three are left behind it.
        Flowkeeper x = Tale.started(0, GUARD, 4, 0, GUARD, 1, 0, WAIT, 0, 0, TELL, 0, 1, TELL, 0, 2, TELL, 0, 3);
        x.decide(0, 1);
        Tale.cancels(x, 0);
        Tale.signals(x, 0, 0, 7);
        Tale.decides(x, 0, 3);
        Tale.behind(x, 0, 5, "TOLD 0 1, TOLD 0 2, OVER 23 0");
        // The inner one tells more than is left.
        Flowkeeper y = Tale.started(0, GUARD, 2, 0, GUARD, 3, 0, WAIT, 0, 0, TELL, 0, 1, TELL, 0, 2, TELL, 0, 3);
        y.decide(0, 1);
        Tale.cancels(y, 0);
        Tale.signals(y, 0, 0, 7);
        Tale.decides(y, 0, 3);
        Tale.behind(y, 0, 5, "TOLD 0 1, TOLD 0 2, OVER 23 0");
        // A GUARD that is not guarded itself is cut ahead.
        Flowkeeper z = Tale.started(0, GUARD, 1, 0, WAIT, 0, 0, GUARD, 5, 0, TELL, 0, 2, TELL, 0, 3);
        z.decide(0, 1);
        Tale.cancels(z, 0);
        Tale.signals(z, 0, 0, 7);
        Tale.decides(z, 0, 1);
        Tale.stands(z, 0, CANCELLED, 7, NONE);
    }

    /** A SIDE counts as one step, steps that are left out do not count, SKIP and MARK and BACK do. */
    private static void guardCounts() {
        Flowkeeper x = Tale.started(0, GUARD, 2, 0, SIDE, 3, 0, WAIT, 0, 0, WAIT, 1, 0, WAIT, 2, 0, TELL, 0, 1,
                TELL, 0, 2);
        x.decide(0, 1);
        Tale.cancels(x, 0);
        Tale.decides(x, 0, 0);
        for (int i = 0; i < 3; i++) {
            Tale.signals(x, 0, i, 0);
        }
        Tale.decides(x, 0, 2);
        Tale.behind(x, 0, 8, "TOLD 0 1, OVER 23 0");
        Flowkeeper y = Tale.started(0, GUARD, 3, 0, WAIT, 0, 0, SKIP, 9, 2, TELL, 0, 1, TELL, 0, 2, TELL, 0, 3,
                TELL, 0, 4);
        y.decide(0, 1);
        Tale.cancels(y, 0);
        Tale.signals(y, 0, 0, 7);
        Tale.decides(y, 0, 2);
        Tale.behind(y, 0, 5, "TOLD 0 3, OVER 23 0");
        Flowkeeper z = Tale.started(0, GUARD, 4, 0, WAIT, 0, 0, MARK, 0, 1, TELL, 0, 1, TELL, 0, 2, TELL, 0, 3);
        z.decide(0, 1);
        Tale.cancels(z, 0);
        Tale.signals(z, 0, 0, 7);
        Tale.decides(z, 0, 4);
        Tale.behind(z, 0, 5, "MARKED 0 0, TOLD 0 1, TOLD 0 2, OVER 23 0");
        Flowkeeper b = Tale.started(0, GUARD, 5, 0, WAIT, 0, 0, TELL, 0, 100, ADD, 1, 0, BACK, 9, 2);
        b.decide(0, 1);
        Tale.cancels(b, 0);
        Tale.signals(b, 0, 0, 0);
        Tale.decides(b, 0, 3);
        Tale.behind(b, 0, 5, "TOLD 0 0, TOLD 0 1, OVER 23 0");
    }

    private static void againGuarded() {
        Flowkeeper x = Tale.started(0, GUARD, 2, 0, WAIT, 0, 0, AGAIN, 0, 0);
        x.decide(0, 1);
        Tale.cancels(x, 0);
        Tale.signals(x, 0, 0, 5);
        Tale.decides(x, 0, 1);
        Check.due("a second run", 2, () -> x.runs(0));
        Tale.all(x, 0, "STARTED 5 0, CANCEL 0 0");
        Check.due("asked for in it already", 0, () -> Check.truth(x.cancel(0)));
        Tale.decides(x, 0, 0);
        Tale.signals(x, 0, 0, 6);
        Tale.decides(x, 0, 1);
        Check.due("a third run", 3, () -> x.runs(0));
    }

    /** What fails while a cancel is asked for has FAILED. */
    private static void failsGuarded() {
        Flowkeeper x = Tale.started(0, UNDO, 0, 0, GUARD, 2, 0, WAIT, 0, 0, FAIL, 3, 0);
        x.decide(0, 1);
        Tale.cancels(x, 0);
        Tale.signals(x, 0, 0, 5);
        Tale.decides(x, 0, 1);
        Tale.does(x, 0, 100, 5);
        Tale.decides(x, 0, 1);
        Tale.behind(x, 0, 8, "OVER 22 3");
        // A lost one in a guarded step fails likewise.
        Flowkeeper y = Tale.started(0, GUARD, 1, 0, ACT, 0, 0);
        y.decide(0, 1);
        Tale.cancels(y, 0);
        Tale.loses(y, 0, 100);
        Tale.decides(y, 0, 1);
        Tale.stands(y, 0, FAILED, 0, NONE);
    }

    /** Guarded steps behind a CANCEL can be too many as well. */
    private static void tooManySteps() {
        Flowkeeper x = Tale.started(0, GUARD, 11, 0, WAIT, 0, 0, GUARD, 11, 0, ADD, 1, 0, BACK, 99, 2);
        x.decide(0, 1);
        Tale.cancels(x, 0);
        Tale.signals(x, 0, 0, 0);
        Tale.decides(x, 0, 1);
        Tale.behind(x, 0, 4, "DECIDED 1 0, OVER 22 9");
        Tale.stands(x, 0, FAILED, 20, NONE);
    }
}
