/** What the steps of a program do, as decide (promise 9) puts it down. */
final class StepsTest implements Words {
    public static void main(String[] args) {
        act();
        actLost();
        timer();
        waitForSignal();
        waitWithTicks();
        waitTooLong();
        signalsInOneDecision();
        signalsInOrder();
        side();
        sideLost();
        sideSignals();
        sideTimers();
        skip();
        back();
        setAndAdd();
        tell();
        undo();
        undoLost();
        manyUndos();
        ends();
        leftOver();
        Check.done("StepsTest");
    }

    private static void act() {
        Flowkeeper x = Tale.started(7, ACT, 3, 1, ACT, 5, 0);
        Tale.decides(x, 0, 1);
        Tale.all(x, 0, "STARTED 7 0, DECIDED 1 0, ACTIVITY 3 1");
        Tale.stands(x, 0, RUNNING, 7, 0);
        Check.due("nothing on the other queue", NONE, () -> x.take(0, 0));
        Tale.does(x, 1, 100, -99);
        Tale.stands(x, 0, RUNNING, 7, 0);
        Tale.decides(x, 0, 1);
        Tale.stands(x, 0, RUNNING, -99, 1);
        Tale.does(x, 0, 101, 99);
        Tale.decides(x, 0, 1);
        Tale.all(x, 0, "STARTED 7 0, DECIDED 1 0, ACTIVITY 3 1, DONE 0 -99, DECIDED 1 0, ACTIVITY 5 0, DONE 1 99, "
                + "DECIDED 1 0, OVER 21 99");
        Tale.stands(x, 0, ENDED, 99, NONE);
    }

    private static void actLost() {
        Flowkeeper x = Tale.started(7, ACT, 0, 0, SET, 1, 0);
        x.decide(0, 1);
        Tale.loses(x, 0, 100);
        Tale.decides(x, 0, 1);
        Tale.behind(x, 0, 3, "LOST 0 0, DECIDED 1 0, OVER 22 1");
        Tale.stands(x, 0, FAILED, 7, NONE);
    }

    private static void timer() {
        Flowkeeper x = Tale.started(5, TIMER, 3, 0, TIMER, 50, 0);
        x.tick(4);
        Tale.decides(x, 0, 1);
        Tale.all(x, 0, "STARTED 5 0, DECIDED 1 0, TIMER_SET 3 0");
        x.tick(2);
        Check.due("not yet due", 3, () -> x.events(0, 1));
        x.tick(1);
        Tale.behind(x, 0, 3, "FIRED 0 0");
        Tale.decides(x, 0, 1);
        Tale.stands(x, 0, RUNNING, 5, 1);
        x.tick(49);
        Check.due("not yet due", 6, () -> x.events(0, 1));
        x.tick(50);
        Tale.behind(x, 0, 3, "FIRED 0 0, DECIDED 1 0, TIMER_SET 50 0, FIRED 1 0");
        Tale.decides(x, 0, 1);
        Tale.stands(x, 0, ENDED, 5, NONE);
    }

    private static void waitForSignal() {
        Flowkeeper x = Tale.started(5, WAIT, 2, 0, WAIT, 2, 0);
        Tale.decides(x, 0, 0);
        Tale.stands(x, 0, RUNNING, 5, 0);
        Tale.signals(x, 0, 1, 11);
        Tale.decides(x, 0, 0);
        Tale.stands(x, 0, RUNNING, 5, 0);
        Tale.signals(x, 0, 2, 12);
        Tale.decides(x, 0, 0);
        Tale.stands(x, 0, RUNNING, 12, 1);
        Tale.signals(x, 0, 2, -13);
        Tale.decides(x, 0, 1);
        Tale.all(x, 0, "STARTED 5 0, DECIDED 1 0, SIGNAL 1 11, DECIDED 1 0, SIGNAL 2 12, DECIDED 1 0, SIGNAL 2 -13, "
                + "DECIDED 1 0, OVER 21 -13");
    }

    private static void waitWithTicks() {
        Flowkeeper x = Tale.started(0, WAIT, 0, 5, ACT, 0, 0, WAIT, 1, 6);
        Tale.decides(x, 0, 1);
        Tale.signals(x, 0, 1, 21);
        Tale.signals(x, 0, 0, 20);
        Tale.decides(x, 0, 2);
        Tale.all(x, 0, "STARTED 0 0, DECIDED 1 0, TIMER_SET 5 0, SIGNAL 1 21, SIGNAL 0 20, DECIDED 1 0, "
                + "TIMER_OFF 0 0, ACTIVITY 0 0");
        x.tick(20);
        Check.due("a timer that is off does not fire", 8, () -> x.events(0, 1));
        Tale.does(x, 0, 100, 1);
        Tale.decides(x, 0, 1);
        Tale.behind(x, 0, 8, "DONE 0 1, DECIDED 1 0, OVER 21 21");
    }

    private static void waitTooLong() {
        Flowkeeper x = Tale.started(9, WAIT, 0, 5, WAIT, 0, 0, TIMER, 1, 0);
        x.decide(0, 1);
        x.tick(5);
        Tale.signals(x, 0, 0, 44);
        Tale.decides(x, 0, 1);
        Tale.behind(x, 0, 3, "FIRED 0 0, SIGNAL 0 44, DECIDED 1 0, TIMER_SET 1 0");
        Tale.stands(x, 0, RUNNING, 44, 2);

        for (int ticks = 1; ticks <= 50; ticks += 49) {
            Flowkeeper v = Tale.started(9, WAIT, 0, ticks);
            Tale.decides(v, 0, 1);
            Tale.behind(v, 0, 2, "TIMER_SET " + ticks + " 0");
            v.tick(ticks);
            Tale.decides(v, 0, 1);
            Tale.stands(v, 0, ENDED, -1, NONE);
        }
        Flowkeeper y = Tale.started(9, WAIT, 0, 5, ACT, 0, 0);
        y.decide(0, 1);
        y.tick(5);
        Tale.decides(y, 0, 1);
        Tale.stands(y, 0, RUNNING, -1, 1);
        Tale.behind(y, 0, 3, "FIRED 0 0, DECIDED 1 0, ACTIVITY 0 0");

        Flowkeeper z = Tale.started(9, WAIT, 0, 5, ACT, 0, 0);
        z.decide(0, 1);
        Tale.signals(z, 0, 0, 3);
        z.tick(5);
        Tale.decides(z, 0, 2);
        Tale.behind(z, 0, 3, "SIGNAL 0 3, FIRED 0 0, DECIDED 1 0, TIMER_OFF 0 0, ACTIVITY 0 0");
        Tale.stands(z, 0, RUNNING, 3, 1);
    }

    /** Behind STARTED it goes on as far as it can, before the signal is taken. */
    private static void signalsInOneDecision() {
        Flowkeeper x = Tale.started(0, WAIT, 0, 5, WAIT, 0, 5, WAIT, 1, 5);
        Tale.signals(x, 0, 1, 1);
        Tale.signals(x, 0, 0, 2);
        Tale.decides(x, 0, 3);
        Tale.all(x, 0, "STARTED 0 0, SIGNAL 1 1, SIGNAL 0 2, DECIDED 1 0, TIMER_SET 5 0, TIMER_OFF 0 0, TIMER_SET 5 0");
        Tale.stands(x, 0, RUNNING, 2, 1);
        x.tick(5);
        Tale.decides(x, 0, 1);
        Tale.behind(x, 0, 7, "FIRED 1 0, DECIDED 1 0, OVER 21 1");
    }

    private static void signalsInOrder() {
        Flowkeeper x = Tale.started(0, ACT, 0, 0, WAIT, 1, 9, TELL, 0, 100, WAIT, 1, 9, TELL, 1, 100, WAIT, 1, 9);
        x.decide(0, 1);
        Tale.signals(x, 0, 1, 5);
        Tale.signals(x, 0, 2, 6);
        Tale.signals(x, 0, 1, 7);
        Tale.does(x, 0, 100, 0);
        Tale.decides(x, 0, 3);
        Tale.behind(x, 0, 7, "DECIDED 1 0, TOLD 0 5, TOLD 1 7, TIMER_SET 9 0");
        Tale.stands(x, 0, RUNNING, 7, 5);
        Tale.signals(x, 0, 2, 8);
        Tale.decides(x, 0, 0);
    }

    private static void side() {
        Flowkeeper x = Tale.started(4, SIDE, 3, 0, ACT, 1, 0, TIMER, 2, 0, ACT, 2, 1, TELL, 0, 100);
        Tale.decides(x, 0, 3);
        Tale.all(x, 0, "STARTED 4 0, DECIDED 1 0, ACTIVITY 1 0, TIMER_SET 2 0, ACTIVITY 2 1");
        Tale.stands(x, 0, RUNNING, 4, 0);
        Tale.does(x, 1, 101, 50);
        Tale.decides(x, 0, 0);
        Tale.stands(x, 0, RUNNING, 4, 0);
        Tale.does(x, 0, 100, 40);
        Tale.decides(x, 0, 0);
        Tale.stands(x, 0, RUNNING, 4, 0);
        x.tick(2);
        Tale.decides(x, 0, 2);
        Tale.behind(x, 0, 5, "DONE 1 50, DECIDED 1 0, DONE 0 40, DECIDED 1 0, FIRED 0 0, DECIDED 1 0, TOLD 0 50, "
                + "OVER 21 50");
    }

    private static void sideLost() {
        Flowkeeper x = Tale.started(4, SIDE, 3, 0, ACT, 1, 0, WAIT, 0, 0, ACT, 2, 1, TELL, 0, 100);
        x.decide(0, 1);
        Tale.loses(x, 1, 101);
        Tale.decides(x, 0, 0);
        Tale.stands(x, 0, RUNNING, 4, 0);
        Tale.does(x, 0, 100, 40);
        Tale.decides(x, 0, 0);
        Tale.signals(x, 0, 0, 60);
        Tale.decides(x, 0, 1);
        Tale.behind(x, 0, 6, "DONE 0 40, DECIDED 1 0, SIGNAL 0 60, DECIDED 1 0, OVER 22 1");
        Tale.stands(x, 0, FAILED, 60, NONE);
    }

    private static void sideSignals() {
        Flowkeeper x = Tale.started(0, ACT, 0, 0, SIDE, 3, 0, WAIT, 0, 9, WAIT, 0, 8, WAIT, 0, 7, TELL, 1, 100);
        x.decide(0, 1);
        Tale.signals(x, 0, 0, 1);
        Tale.does(x, 0, 100, 0);
        Tale.decides(x, 0, 2);
        Tale.behind(x, 0, 5, "DECIDED 1 0, TIMER_SET 8 0, TIMER_SET 7 0");
        Tale.stands(x, 0, RUNNING, 0, 1);
        Tale.signals(x, 0, 1, 9);
        Tale.signals(x, 0, 0, 2);
        Tale.decides(x, 0, 1);
        Tale.behind(x, 0, 8, "SIGNAL 1 9, SIGNAL 0 2, DECIDED 1 0, TIMER_OFF 0 0");
        Tale.signals(x, 0, 0, 3);
        Tale.decides(x, 0, 3);
        Tale.behind(x, 0, 12, "SIGNAL 0 3, DECIDED 1 0, TIMER_OFF 1 0, TOLD 1 3, OVER 21 3");

        Flowkeeper y = Tale.started(0, ACT, 0, 0, SIDE, 2, 0, WAIT, 0, 0, WAIT, 1, 1);
        y.decide(0, 1);
        Tale.signals(y, 0, 1, 1);
        Tale.signals(y, 0, 0, 2);
        Tale.does(y, 0, 100, 0);
        Tale.decides(y, 0, 1);
        Tale.behind(y, 0, 6, "DECIDED 1 0, OVER 21 1");
    }

    /** A WAIT whose timer fired has -1, and takes no signal any more. */
    private static void sideTimers() {
        Flowkeeper x = Tale.started(3, SIDE, 2, 0, WAIT, 0, 2, WAIT, 0, 5);
        Tale.decides(x, 0, 2);
        x.tick(2);
        Tale.signals(x, 0, 0, 8);
        Tale.decides(x, 0, 2);
        Tale.behind(x, 0, 4, "FIRED 0 0, SIGNAL 0 8, DECIDED 1 0, TIMER_OFF 1 0, OVER 21 8");
        Flowkeeper y = Tale.started(3, SIDE, 2, 0, WAIT, 0, 0, TIMER, 2, 0);
        y.decide(0, 1);
        Tale.signals(y, 0, 0, 8);
        y.tick(2);
        Tale.decides(y, 0, 1);
        Tale.stands(y, 0, ENDED, 8, NONE);
    }

    private static void skip() {
        for (int register = 3; register <= 5; register++) {
            Flowkeeper x = Tale.started(register, SKIP, 4, 2, TELL, 0, 1, TELL, 0, 2, TELL, 0, 3);
            Tale.decides(x, 0, register < 4 ? 2 : 4);
            Tale.behind(x, 0, 2, (register < 4 ? "" : "TOLD 0 1, TOLD 0 2, ") + "TOLD 0 3, OVER 21 " + register);
        }
        Flowkeeper y = Tale.started(0, SKIP, 1, 1, FAIL, 5, 0);
        Tale.decides(y, 0, 1);
        Tale.stands(y, 0, ENDED, 0, NONE);
        Flowkeeper z = Tale.started(-99, SKIP, -99, 1, FAIL, 5, 0);
        Tale.decides(z, 0, 1);
        Tale.stands(z, 0, FAILED, -99, NONE);
        Flowkeeper into = Tale.started(0, SKIP, 1, 2, SIDE, 2, 0, ACT, 1, 0, ACT, 2, 0);
        Tale.decides(into, 0, 1);
        Tale.behind(into, 0, 2, "ACTIVITY 2 0");
        Tale.stands(into, 0, RUNNING, 0, 3);
    }

    private static void back() {
        Flowkeeper x = Tale.started(0, ADD, 1, 0, TELL, 0, 100, BACK, 3, 2, TELL, 1, 100);
        Tale.decides(x, 0, 5);
        Tale.behind(x, 0, 2, "TOLD 0 1, TOLD 0 2, TOLD 0 3, TOLD 1 3, OVER 21 3");
        Flowkeeper y = Tale.started(0, TELL, 0, 1, ACT, 0, 0, BACK, 5, 1);
        Tale.decides(y, 0, 2);
        Tale.does(y, 0, 100, 4);
        Tale.decides(y, 0, 1);
        Tale.stands(y, 0, RUNNING, 4, 1);
        Tale.does(y, 0, 101, 5);
        Tale.decides(y, 0, 1);
        Tale.stands(y, 0, ENDED, 5, NONE);
    }

    private static void setAndAdd() {
        Flowkeeper x = Tale.started(50, SET, -99, 0, TELL, 0, 100, ADD, 99, 0, ADD, 99, 0, TELL, 1, 100);
        Tale.decides(x, 0, 3);
        Tale.behind(x, 0, 2, "TOLD 0 -99, TOLD 1 99, OVER 21 99");
        for (int sign = -1; sign <= 1; sign += 2) {
            Flowkeeper y = Tale.started(99 * sign, ADD, 99 * sign, 0, ADD, 99 * sign, 0, ADD, 99 * sign, 0,
                    ADD, 99 * sign, 0, ADD, 99 * sign, 0, ADD, 99 * sign, 0, ADD, 99 * sign, 0, ADD, 99 * sign, 0,
                    ADD, 99 * sign, 0, TELL, 0, 100, ADD, 99 * sign, 0, TELL, 1, 100);
            Tale.decides(y, 0, 3);
            Tale.behind(y, 0, 2, "TOLD 0 " + 990 * sign + ", TOLD 1 " + 999 * sign + ", OVER 21 " + 999 * sign);
        }
    }

    private static void tell() {
        Flowkeeper x = Tale.started(33, TELL, 0, 99, TELL, 1, 100, ACT, 0, 0, TELL, 0, -99);
        Check.due("property 0 at first", 0, () -> x.property(0, 0));
        Check.due("property 1 at first", 0, () -> x.property(0, 1));
        Tale.decides(x, 0, 3);
        Check.due("property 0", 99, () -> x.property(0, 0));
        Check.due("property 1", 33, () -> x.property(0, 1));
        Tale.does(x, 0, 100, 1);
        Tale.decides(x, 0, 2);
        Check.due("property 0 of a run that is over", -99, () -> x.property(0, 0));
    }

    private static void undo() {
        Flowkeeper x = Tale.started(2, UNDO, 0, 0, UNDO, 1, 1, ACT, 5, 0, UNDO, 2, 0, FAIL, 9, 0);
        Tale.decides(x, 0, 1);
        Tale.does(x, 0, 100, 6);
        Tale.decides(x, 0, 1);
        Tale.behind(x, 0, 3, "DONE 0 6, DECIDED 1 0, UNDOING 2 0");
        Tale.stands(x, 0, RUNNING, 6, NONE);
        Tale.signals(x, 0, 0, 1);
        Tale.cancels(x, 0);
        Tale.decides(x, 0, 0);
        Tale.does(x, 0, 101, 70);
        Tale.decides(x, 0, 1);
        Tale.behind(x, 0, 6, "SIGNAL 0 1, CANCEL 0 0, DECIDED 1 0, DONE 1 70, DECIDED 1 0, UNDOING 1 1");
        Tale.does(x, 1, 102, 71);
        Tale.decides(x, 0, 1);
        Tale.does(x, 0, 103, 72);
        Tale.decides(x, 0, 1);
        Tale.behind(x, 0, 12, "DONE 2 71, DECIDED 1 0, UNDOING 0 0, DONE 3 72, DECIDED 1 0, OVER 22 9");
        Tale.stands(x, 0, FAILED, 6, NONE);
    }

    private static void undoLost() {
        Flowkeeper x = Tale.started(2, UNDO, 0, 0, UNDO, 1, 0, FAIL, 3, 0);
        x.decide(0, 1);
        Tale.loses(x, 0, 100);
        Tale.decides(x, 0, 1);
        Tale.does(x, 0, 101, 0);
        Tale.decides(x, 0, 1);
        Tale.all(x, 0, "STARTED 2 0, DECIDED 1 0, UNDOING 1 0, LOST 0 0, DECIDED 1 0, UNDOING 0 0, DONE 1 0, "
                + "DECIDED 1 0, OVER 22 3");
        Tale.stands(x, 0, FAILED, 2, NONE);
    }

    /** Ten UNDO steps for each of twelve signals: more than a history has room for, and still the latest one first. */
    private static void manyUndos() {
        Flowkeeper x = Tale.started(0, WAIT, 0, 0, UNDO, 0, 0, UNDO, 1, 0, UNDO, 2, 0, UNDO, 3, 0, UNDO, 4, 0,
                UNDO, 5, 0, UNDO, 0, 1, UNDO, 1, 1, UNDO, 2, 1, BACK, 50, 10, FAIL, 4, 0);
        for (int i = 1; i <= 12; i++) {
            Tale.signals(x, 0, 0, i == 12 ? 50 : i);
        }
        Tale.decides(x, 0, 1);
        int[] kinds = {2, 1, 0, 5, 4, 3, 2, 1, 0, 2, 1, 0, 5};
        int[] queues = {1, 1, 1, 0, 0, 0, 0, 0, 0, 1, 1, 1, 0};
        for (int i = 0; i < kinds.length; i++) {
            int n = i;
            int last = x.events(0, 1) - 1;
            Check.due("UNDOING " + i, 15, () -> x.eventKind(0, 1, last));
            Check.due("its kind", kinds[n], () -> x.eventNumber(0, 1, last, true));
            Check.due("its queue", queues[n], () -> x.eventNumber(0, 1, last, false));
            Tale.does(x, queues[i], 100 + i, 0);
            Tale.decides(x, 0, 1);
        }
    }

    private static void ends() {
        Flowkeeper x = Tale.started(-7, END, 0, 0, TELL, 0, 1);
        Tale.decides(x, 0, 1);
        Tale.all(x, 0, "STARTED -7 0, DECIDED 1 0, OVER 21 -7");
        Flowkeeper y = Tale.started(-7, FAIL, 1, 0, TELL, 0, 1);
        Tale.decides(y, 0, 1);
        Tale.all(y, 0, "STARTED -7 0, DECIDED 1 0, OVER 22 1");
        Tale.stands(y, 0, FAILED, -7, NONE);
    }

    /** What comes behind the end of a run in one decision is not taken. */
    private static void leftOver() {
        Flowkeeper x = Tale.started(1, WAIT, 0, 0);
        x.decide(0, 1);
        Tale.signals(x, 0, 0, 5);
        Tale.signals(x, 0, 0, 6);
        Tale.cancels(x, 0);
        Tale.decides(x, 0, 1);
        Tale.behind(x, 0, 2, "SIGNAL 0 5, SIGNAL 0 6, CANCEL 0 0, DECIDED 1 0, OVER 21 5");
    }
}
