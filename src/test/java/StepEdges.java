/** The sentences under 'What a program does', up to what END, AGAIN and FAIL do. */
final class StepEdges implements Words {
    private StepEdges() {
    }

    static void all() {
        begins();
        inOrder();
        waitsUntilOver();
        becomesTheResult();
        lost();
        firstSignal();
        noSignal();
        waitWithTicks();
        firesFirst();
        signalAtOnce();
        sideBegins();
        sideResults();
        sideLost();
        sideSignals();
        plainSteps();
        marked();
        markLeftOut();
        markDecided();
        ends();
    }

    private static void begins() {
        Edge.term("A run begins at the step 0, with what STARTED tells in its register, and goes on until it waits.");
        Flowkeeper x = Tale.started(-99, TELL, 0, 100, ACT, 0, 0, TELL, 1, 1);
        Tale.decides(x, 0, 2);
        Tale.behind(x, 0, 1, "DECIDED 1 0, TOLD 0 -99, ACTIVITY 0 0");
        Tale.stands(x, 0, RUNNING, -99, 1);
        // It may wait nowhere, or at its first step.
        Flowkeeper y = Tale.started(99, TELL, 0, 100);
        Tale.decides(y, 0, 2);
        Tale.stands(y, 0, ENDED, 99, NONE);
        Flowkeeper z = Tale.started(0, WAIT, 0, 0);
        Tale.decides(z, 0, 0);
        Tale.stands(z, 0, RUNNING, 0, 0);
        // A run behind AGAIN begins in the same way.
        Flowkeeper v = Tale.started(0, TELL, 0, 100, ADD, 1, 0, AGAIN, 0, 0);
        Tale.decides(v, 0, 2);
        Tale.decides(v, 0, 2);
        Tale.behind(v, 0, 0, "STARTED 2 0");
        Check.due("told by the second run", 1, () -> v.property(0, 0));
    }

    private static void inOrder() {
        Edge.term("Each thing that happens is taken in the order of the history;");
        Flowkeeper x = Tale.started(0, WAIT, 0, 0, WAIT, 0, 0, SIDE, 2, 0, ACT, 0, 0, WAIT, 1, 0);
        x.decide(0, 1);
        for (int i = 1; i <= 2; i++) {
            Tale.signals(x, 0, 0, i);
        }
        Tale.decides(x, 0, 1);
        Tale.stands(x, 0, RUNNING, 2, 2);
        // A signal ahead of the timer that ends its WAIT, and behind it.
        for (int first = 0; first <= 1; first++) {
            Flowkeeper y = Tale.started(5, WAIT, 0, 3, TELL, 0, 100);
            y.decide(0, 1);
            y.tick(2);
            if (first == 0) {
                Tale.signals(y, 0, 0, 8);
            }
            y.tick(1);
            if (first == 1) {
                Tale.signals(y, 0, 0, 8);
            }
            Tale.decides(y, 0, 3 - first);
            Tale.stands(y, 0, ENDED, first == 0 ? 8 : -1, NONE);
        }
        Edge.term("behind each it goes on as far as it can.");
        // Behind STARTED it comes to the WAIT, so its timer is set although the signal is there already.
        Flowkeeper z = Tale.started(0, TELL, 0, 1, WAIT, 0, 9, TELL, 0, 2, WAIT, 0, 0, TELL, 0, 3);
        Tale.signals(z, 0, 0, 1);
        Tale.signals(z, 0, 0, 2);
        Tale.decides(z, 0, 6);
        Tale.behind(z, 0, 3, "DECIDED 1 0, TOLD 0 1, TIMER_SET 9 0, TIMER_OFF 0 0, TOLD 0 2, TOLD 0 3, OVER 21 2");
    }

    private static void waitsUntilOver() {
        Edge.term("- ACT, TIMER, CHILD: it is decided, and the run waits until it is over: DONE or LOST of the activity, "
                + "FIRED of the timer, CHILD_OVER of the child.");
        Flowkeeper x = Tale.started(5, ACT, 0, 0, TIMER, 2, 0, CHILD, 1, 0, TELL, 0, 1);
        Tale.version(x, 1, SET, 7, 0);
        Tale.decides(x, 0, 1);
        Tale.signals(x, 0, 0, 1);
        Tale.decides(x, 0, 0);
        Check.due("it waits at ACT", 0, () -> x.place(0));
        Tale.does(x, 0, 100, 0);
        Tale.decides(x, 0, 1);
        x.tick(1);
        Tale.signals(x, 0, 0, 2);
        Tale.decides(x, 0, 0);
        Check.due("it waits at TIMER", 1, () -> x.place(0));
        x.tick(1);
        Tale.decides(x, 0, 1);
        Tale.signals(x, 0, 0, 3);
        Tale.decides(x, 0, 0);
        Check.due("it waits at CHILD", 2, () -> x.place(0));
        x.decide(1, 1);
        Tale.decides(x, 0, 2);
        // What is over of one step is nothing to the next one, though it has the same number.
        Flowkeeper y = Tale.started(5, SIDE, 2, 0, CHILD, 1, 0, ACT, 0, 0, TELL, 0, 1);
        Tale.version(y, 1, SET, 7, 0);
        y.decide(0, 1);
        y.decide(1, 1);
        Tale.decides(y, 0, 0);
        Tale.does(y, 0, 100, 9);
        Tale.decides(y, 0, 2);
        Flowkeeper z = Tale.started(5, SIDE, 2, 0, ACT, 0, 0, TIMER, 2, 0, TELL, 0, 1);
        z.decide(0, 1);
        Tale.does(z, 0, 100, 9);
        Tale.decides(z, 0, 0);
        z.tick(2);
        Tale.decides(z, 0, 2);
    }

    private static void becomesTheResult() {
        Edge.term("The register becomes the result (of a timer it stays).");
        Flowkeeper x = Tale.started(5, ACT, 0, 0, TIMER, 1, 0, ACT, 0, 0, CHILD, 1, 0);
        Tale.version(x, 1, Edge.times(12, ADD, 99, 0));
        x.decide(0, 1);
        Tale.does(x, 0, 100, -99);
        x.decide(0, 1);
        Tale.stands(x, 0, RUNNING, -99, 1);
        x.tick(1);
        x.decide(0, 1);
        Tale.stands(x, 0, RUNNING, -99, 2);
        Tale.does(x, 0, 101, 99);
        x.decide(0, 1);
        Tale.stands(x, 0, RUNNING, 99, 3);
        x.decide(1, 1);
        x.decide(0, 1);
        Tale.stands(x, 0, ENDED, 999, NONE);
    }

    private static void lost() {
        Edge.term("If an activity is LOST, the run fails with 1 (not while it is undoing).");
        Flowkeeper x = Tale.started(5, UNDO, 1, 0, UNDO, 2, 0, ACT, 0, 0, SET, 7, 0);
        x.decide(0, 1);
        Tale.loses(x, 0, 100);
        Tale.decides(x, 0, 1);
        Tale.behind(x, 0, 3, "LOST 0 0, DECIDED 1 0, UNDOING 2 0");
        Tale.stands(x, 0, RUNNING, 5, NONE);
        Tale.loses(x, 0, 101);
        Tale.decides(x, 0, 1);
        Tale.behind(x, 0, 6, "LOST 1 0, DECIDED 1 0, UNDOING 1 0");
        Tale.loses(x, 0, 102);
        Tale.decides(x, 0, 1);
        Tale.behind(x, 0, 9, "LOST 2 0, DECIDED 1 0, OVER 22 1");
        // One that is cut is CANCELLED, whatever of its undoing is LOST.
        Flowkeeper y = Tale.started(5, UNDO, 1, 0, WAIT, 0, 0);
        Tale.cancels(y, 0);
        y.decide(0, 1);
        Tale.loses(y, 0, 100);
        y.decide(0, 1);
        Tale.stands(y, 0, CANCELLED, 5, NONE);
    }

    private static void firstSignal() {
        Edge.term("- WAIT: the first SIGNAL of this run with its number that was not taken is taken, and its value is the "
                + "register;");
        Flowkeeper x = Tale.started(5, ACT, 0, 0, WAIT, 2, 0, TELL, 0, 100, WAIT, 2, 0, TELL, 0, 100, WAIT, 0, 0,
                TELL, 0, 100, WAIT, 2, 0);
        x.decide(0, 1);
        Tale.signals(x, 0, 1, 1);
        Tale.signals(x, 0, 2, -99);
        Tale.signals(x, 0, 0, 4);
        Tale.signals(x, 0, 2, 99);
        Tale.signals(x, 0, 0, 6);
        Tale.does(x, 0, 100, 0);
        Tale.decides(x, 0, 3);
        Tale.behind(x, 0, 10, "TOLD 0 -99, TOLD 0 99, TOLD 0 4");
        Tale.stands(x, 0, RUNNING, 4, 7);
        // Those of another run are not this one's, unless they were not taken there.
        Flowkeeper y = Tale.started(5, WAIT, 0, 0, WAIT, 1, 0, AGAIN, 0, 0);
        y.decide(0, 1);
        for (int which = 0; which <= 2; which++) {
            Tale.signals(y, 0, which, 10 + which);
        }
        Tale.decides(y, 0, 1);
        Tale.all(y, 0, "STARTED 11 0, SIGNAL 2 12");
    }

    private static void noSignal() {
        Edge.term("if there is none, it waits for one;");
        Flowkeeper x = Tale.started(5, WAIT, 0, 0, TELL, 0, 1);
        Tale.decides(x, 0, 0);
        for (int which = 1; which <= 2; which++) {
            Tale.signals(x, 0, which, 1);
            Tale.decides(x, 0, 0);
            Tale.stands(x, 0, RUNNING, 5, 0);
        }
        x.tick(50);
        Check.due("nothing has happened", NONE, () -> x.decide(0, 1));
        Tale.signals(x, 0, 0, 2);
        Tale.decides(x, 0, 2);
        Tale.stands(x, 0, ENDED, 2, NONE);
    }

    private static void waitWithTicks() {
        Edge.term("with ticks a timer is set first, and TIMER_OFF follows as soon as a signal is taken;");
        Flowkeeper x = Tale.started(5, WAIT, 0, 3, ACT, 0, 0);
        Tale.decides(x, 0, 1);
        Tale.behind(x, 0, 2, "TIMER_SET 3 0");
        x.tick(2);
        Tale.signals(x, 0, 0, 7);
        Tale.decides(x, 0, 2);
        Tale.behind(x, 0, 3, "SIGNAL 0 7, DECIDED 1 0, TIMER_OFF 0 0, ACTIVITY 0 0");
        x.tick(1);
        Check.due("it does not fire", 7, () -> x.events(0, 1));
        // In a SIDE TIMER_OFF follows at once, too, while others are waited for.
        Flowkeeper y = Tale.started(5, SIDE, 2, 0, WAIT, 0, 3, WAIT, 1, 3);
        y.decide(0, 1);
        Tale.signals(y, 0, 1, 7);
        Tale.decides(y, 0, 1);
        Tale.behind(y, 0, 6, "TIMER_OFF 1 0");
        // Without ticks there is neither.
        Flowkeeper z = Tale.started(5, WAIT, 0, 0, ACT, 0, 0);
        Tale.decides(z, 0, 0);
        Tale.signals(z, 0, 0, 7);
        Tale.decides(z, 0, 1);
        Tale.behind(z, 0, 4, "ACTIVITY 0 0");
    }

    private static void firesFirst() {
        Edge.term("if it fires first, the register becomes -1.");
        Flowkeeper x = Tale.started(5, WAIT, 0, 3, ACT, 0, 0, WAIT, 0, 0);
        x.decide(0, 1);
        x.tick(3);
        Tale.signals(x, 0, 0, 7);
        Tale.decides(x, 0, 1);
        Tale.stands(x, 0, RUNNING, -1, 1);
        Tale.does(x, 0, 100, 0);
        Tale.decides(x, 0, 1);
        Tale.stands(x, 0, ENDED, 7, NONE);
        // The signal was first, and the timer has fired before that was decided: it is nothing any more.
        Flowkeeper y = Tale.started(5, SIDE, 2, 0, ACT, 0, 0, WAIT, 0, 3);
        y.decide(0, 1);
        Tale.signals(y, 0, 0, 7);
        y.tick(3);
        Tale.decides(y, 0, 1);
        Tale.behind(y, 0, 4, "SIGNAL 0 7, FIRED 0 0, DECIDED 1 0, TIMER_OFF 0 0");
        Tale.does(y, 0, 100, 1);
        Tale.decides(y, 0, 1);
        Tale.stands(y, 0, ENDED, 7, NONE);
    }

    private static void signalAtOnce() {
        Edge.term("(If there is a signal at once, no timer is set.)");
        Flowkeeper x = Tale.started(5, ACT, 0, 0, WAIT, 0, 3, WAIT, 0, 3);
        x.decide(0, 1);
        Tale.signals(x, 0, 0, 7);
        Tale.does(x, 0, 100, 0);
        Tale.decides(x, 0, 1);
        Tale.behind(x, 0, 5, "DECIDED 1 0, TIMER_SET 3 0");
        Tale.stands(x, 0, RUNNING, 7, 2);
    }

    private static void sideBegins() {
        Edge.term("- SIDE: the steps are begun one after the other, and the run waits until all are over;");
        Flowkeeper x = Tale.started(5, SIDE, 3, 0, TIMER, 1, 0, WAIT, 0, 2, ACT, 0, 0, TELL, 0, 1);
        Tale.decides(x, 0, 3);
        Tale.behind(x, 0, 2, "TIMER_SET 1 0, TIMER_SET 2 0, ACTIVITY 0 0");
        x.tick(2);
        Tale.decides(x, 0, 0);
        Tale.stands(x, 0, RUNNING, 5, 0);
        Tale.does(x, 0, 100, 6);
        Tale.decides(x, 0, 2);
        // All may be over as soon as they are begun.
        Flowkeeper y = Tale.started(5, ACT, 0, 0, SIDE, 2, 0, WAIT, 0, 2, WAIT, 1, 0);
        y.decide(0, 1);
        Tale.signals(y, 0, 1, 8);
        Tale.signals(y, 0, 0, 7);
        Tale.does(y, 0, 100, 6);
        Tale.decides(y, 0, 1);
        Tale.stands(y, 0, ENDED, 8, NONE);
        // One alone is all.
        Flowkeeper z = Tale.started(5, SIDE, 1, 0, WAIT, 0, 0);
        z.decide(0, 1);
        Tale.signals(z, 0, 0, 7);
        Tale.decides(z, 0, 1);
        Tale.stands(z, 0, ENDED, 7, NONE);
    }

    private static void sideResults() {
        Edge.term("then the results go to the register, as each step would let them, in the order of the steps, and it "
                + "goes on behind them.");
        Flowkeeper x = Tale.started(5, SIDE, 3, 0, ACT, 0, 0, ACT, 0, 1, TIMER, 1, 0, ACT, 1, 0);
        x.decide(0, 1);
        Tale.does(x, 1, 101, 2);
        Tale.does(x, 0, 100, 1);
        x.tick(1);
        Tale.decides(x, 0, 1);
        Tale.stands(x, 0, RUNNING, 2, 4);
        Flowkeeper y = Tale.started(5, SIDE, 2, 0, TIMER, 1, 0, TIMER, 2, 0);
        y.decide(0, 1);
        y.tick(2);
        Tale.decides(y, 0, 1);
        Tale.stands(y, 0, ENDED, 5, NONE);
        Flowkeeper z = Tale.started(5, SIDE, 2, 0, ACT, 0, 0, WAIT, 0, 1);
        z.decide(0, 1);
        z.tick(1);
        Tale.does(z, 0, 100, 1);
        Tale.decides(z, 0, 1);
        Tale.stands(z, 0, ENDED, -1, NONE);
    }

    private static void sideLost() {
        Edge.term("If an activity is LOST, it fails when all are over (the results of the others go to the register all "
                + "the same).");
        Flowkeeper x = Tale.started(5, UNDO, 3, 1, SIDE, 3, 0, WAIT, 0, 0, ACT, 0, 0, TIMER, 20, 0);
        x.decide(0, 1);
        Tale.loses(x, 0, 100);
        Tale.decides(x, 0, 0);
        Tale.stands(x, 0, RUNNING, 5, 1);
        Tale.signals(x, 0, 0, 8);
        Tale.decides(x, 0, 0);
        Tale.stands(x, 0, RUNNING, 5, 1);
        x.tick(20);
        Tale.decides(x, 0, 1);
        Tale.stands(x, 0, RUNNING, 8, NONE);
        Tale.does(x, 1, 101, 0);
        Tale.decides(x, 0, 1);
        Tale.stands(x, 0, FAILED, 8, NONE);
        Check.due("with 1", 1, () -> x.eventNumber(0, 1, x.events(0, 1) - 1, false));
        // All of them LOST: there are no results of others.
        Flowkeeper y = Tale.started(5, SIDE, 2, 0, ACT, 0, 0, ACT, 0, 1);
        y.decide(0, 1);
        Tale.loses(y, 0, 100);
        Tale.loses(y, 1, 101);
        Tale.decides(y, 0, 1);
        Tale.stands(y, 0, FAILED, 5, NONE);
    }

    private static void sideSignals() {
        Edge.term("A signal goes to the first one of several WAITs for it that has none.");
        Flowkeeper x = Tale.started(5, SIDE, 3, 0, WAIT, 0, 30, WAIT, 1, 40, WAIT, 0, 50, TELL, 0, 100, WAIT, 0, 0);
        x.decide(0, 1);
        Tale.signals(x, 0, 0, 1);
        Tale.decides(x, 0, 1);
        Tale.behind(x, 0, 7, "TIMER_OFF 0 0");
        Tale.signals(x, 0, 0, 2);
        Tale.decides(x, 0, 1);
        Tale.behind(x, 0, 10, "TIMER_OFF 2 0");
        // Both have one: a third goes to none of them, and is there for a WAIT behind.
        Tale.signals(x, 0, 0, 3);
        Tale.decides(x, 0, 0);
        Tale.signals(x, 0, 1, 4);
        Tale.decides(x, 0, 3);
        Tale.behind(x, 0, 15, "TIMER_OFF 1 0, TOLD 0 2, OVER 21 3");
    }

    private static void plainSteps() {
        Edge.term("- SKIP, BACK, SET, ADD, GUARD, UNDO as told. TELL decides TOLD.");
        Flowkeeper x = Tale.started(5, GUARD, 1, 0, SET, 6, 0, ADD, 1, 0, UNDO, 1, 0, SKIP, 7, 1, BACK, 7, 1);
        Tale.decides(x, 0, 1);
        Tale.behind(x, 0, 2, "OVER 21 7");
        Flowkeeper y = Tale.started(5, TELL, 1, 100, TELL, 1, 100);
        Tale.decides(y, 0, 3);
        Tale.behind(y, 0, 2, "TOLD 1 5, TOLD 1 5, OVER 21 5");
    }

    private static void marked() {
        Edge.term("- MARK: if this mark was MARKED in the run, it goes on with the next step.");
        Flowkeeper x = Tale.started(0, MARK, 0, 1, TELL, 0, 100, ADD, 1, 0, WAIT, 0, 0, BACK, 5, 4, MARK, 0, 1,
                TELL, 1, 7, MARK, 1, 1, TELL, 1, 8);
        Tale.decides(x, 0, 2);
        Tale.signals(x, 0, 0, 4);
        Tale.decides(x, 0, 1);
        Tale.behind(x, 0, 5, "DECIDED 1 0, TOLD 0 4");
        Tale.signals(x, 0, 0, 5);
        Tale.decides(x, 0, 4);
        Tale.behind(x, 0, 8, "DECIDED 1 0, TOLD 1 7, MARKED 1 0, TOLD 1 8, OVER 21 5");
        Check.due("it is the same when it is played again", 5, () -> x.registerAnew(0, 1));
        // One mark does not stand for another, nor take its place.
        Flowkeeper all = Tale.started(0, MARK, 0, 1, ADD, 1, 0, MARK, 1, 1, ADD, 1, 0, MARK, 2, 1, ADD, 1, 0,
                MARK, 3, 1, ADD, 1, 0, WAIT, 0, 0, ADD, 1, 0, BACK, 9, 10);
        Tale.decides(all, 0, 4);
        Tale.behind(all, 0, 2, "MARKED 0 0, MARKED 1 0, MARKED 2 0, MARKED 3 0");
        Tale.stands(all, 0, RUNNING, 4, 8);
        Tale.signals(all, 0, 0, 0);
        Tale.decides(all, 0, 0);
        Tale.stands(all, 0, RUNNING, 5, 8);
        // Not of another run.
        Flowkeeper y = Tale.started(0, MARK, 0, 1, ADD, 1, 0, AGAIN, 0, 0);
        Tale.decides(y, 0, 2);
        Tale.decides(y, 0, 2);
    }

    private static void markLeftOut() {
        Edge.term("Otherwise, if it is played again (a DECIDED of the history is followed at this place by something else "
                + "than MARKED with this mark, or by nothing), the b steps are left out;");
        int[] something = Edge.steps(TELL, 0, 1, WAIT, 0, 0);
        int[] nothing = Edge.steps(WAIT, 0, 0);
        int[] otherMark = Edge.steps(MARK, 1, 1, ADD, 0, 0, WAIT, 0, 0);
        for (int[] first : new int[][] {something, nothing, otherMark}) {
            Flowkeeper x = Tale.started(5, first);
            Tale.version(x, 0, Edge.join(Edge.steps(MARK, 0, 2, TELL, 1, 9, SET, 9, 0), first));
            x.decide(0, 1);
            Check.due("played again", 5, () -> x.registerAnew(0, 2));
            Tale.signals(x, 0, 1, 0);
            Check.due("it fits", 0, () -> x.decide(0, 2));
        }
        // Behind all that follows a DECIDED it is nothing that stands there.
        Flowkeeper y = Tale.started(5, TELL, 0, 1, WAIT, 0, 0);
        Tale.version(y, 0, TELL, 0, 1, MARK, 0, 1, SET, 9, 0, WAIT, 0, 0);
        y.decide(0, 1);
        Check.due("played again", 5, () -> y.registerAnew(0, 2));
    }

    private static void markDecided() {
        Edge.term("otherwise MARKED is decided.");
        // In what is new, although the same mark was left out in what was played again.
        Flowkeeper x = Tale.started(5, WAIT, 0, 0, WAIT, 0, 0);
        Tale.version(x, 0, MARK, 0, 1, SET, 9, 0, WAIT, 0, 0, MARK, 0, 1, TELL, 0, 1, WAIT, 0, 0);
        x.decide(0, 1);
        Tale.signals(x, 0, 0, 3);
        Check.due("decide", 2, () -> x.decide(0, 2));
        Tale.behind(x, 0, 3, "DECIDED 2 0, MARKED 0 0, TOLD 0 1");
        Check.due("played again", 3, () -> x.registerAnew(0, 2));
        // Played again, where it was MARKED: it is decided again, and its steps are gone through.
        Flowkeeper y = Tale.started(5, MARK, 3, 1, SET, 9, 0, WAIT, 0, 0);
        y.decide(0, 1);
        Check.due("played again", 9, () -> y.registerAnew(0, 1));
        Tale.signals(y, 0, 1, 0);
        Tale.decides(y, 0, 0);
        Tale.all(y, 0, "STARTED 5 0, DECIDED 1 0, MARKED 3 0, SIGNAL 1 0, DECIDED 1 0");
    }

    private static void ends() {
        Edge.term("- END: ENDED with the register;");
        Flowkeeper x = Tale.started(0, Edge.join(Edge.times(11, ADD, -99, 0), Edge.steps(END, 0, 0)));
        Tale.decides(x, 0, 1);
        Tale.behind(x, 0, 2, "OVER 21 -999");
        Edge.term("AGAIN: AGAIN with the register (in the run 9 it fails with 7);");
        Flowkeeper y = Tale.started(-1, ADD, 1, 0, UNDO, 1, 1, AGAIN, 0, 0);
        for (int run = 1; run <= 8; run++) {
            int n = run;
            Tale.decides(y, 0, 1);
            Check.same("the end of the run " + n, "OVER 14 " + (n - 1), Tale.history(y, 0, n, 2));
        }
        Tale.decides(y, 0, 1);
        Tale.behind(y, 0, 2, "UNDOING 1 1");
        Tale.does(y, 1, 900, 0);
        Tale.decides(y, 0, 1);
        Tale.behind(y, 0, 5, "OVER 22 7");
        Check.due("there is no tenth run", 9, () -> y.runs(0));
        Edge.term("FAIL: it fails with a.");
        for (int a = 1; a <= 9; a++) {
            Flowkeeper z = Tale.started(5, FAIL, a, 0);
            Tale.decides(z, 0, 1);
            Tale.behind(z, 0, 2, "OVER 22 " + a);
        }
    }
}
