/** The sentences under 'What a program does' from what fails or is cut on: undoing, guards, sixty steps. */
final class CutEdges implements Words {
    private CutEdges() {
    }

    static void all() {
        undoes();
        overThen();
        waitsForNothingElse();
        guardsSteps();
        guardsInGuards();
        cutAtOnce();
        cutLater();
        cancelDoesNothing();
        sixtySteps();
        fails();
    }

    private static void undoes() {
        Edge.term("To fail with a number, or to be cut: what is to be undone is run, the latest one first: UNDOING is "
                + "decided, and it waits until that is DONE or LOST;");
        Flowkeeper x = Tale.started(5, UNDO, 1, 0, UNDO, 2, 0, UNDO, 3, 0, FAIL, 4, 0);
        Tale.decides(x, 0, 1);
        Tale.behind(x, 0, 2, "UNDOING 3 0");
        Tale.signals(x, 0, 0, 1);
        Tale.decides(x, 0, 0);
        Tale.does(x, 0, 100, 9);
        Tale.decides(x, 0, 1);
        Tale.behind(x, 0, 7, "UNDOING 2 0");
        Tale.loses(x, 0, 101);
        Tale.decides(x, 0, 1);
        Tale.behind(x, 0, 10, "UNDOING 1 0");
        Tale.does(x, 0, 102, 9);
        Tale.decides(x, 0, 1);
        Tale.behind(x, 0, 11, "DONE 2 9, DECIDED 1 0, OVER 22 4");
        // An UNDO that was not gone through is not on the list; one that was gone through twice is there twice.
        Flowkeeper y = Tale.started(0, SKIP, 1, 1, UNDO, 1, 0, UNDO, 2, 0, ADD, 1, 0, BACK, 2, 2, FAIL, 4, 0,
                UNDO, 3, 0);
        y.decide(0, 1);
        for (int i = 0; i < 2; i++) {
            Check.due("UNDOING", Flowkeeper.UNDOING, () -> y.eventKind(0, 1, y.events(0, 1) - 1));
            Check.due("of the kind 2", 2, () -> y.eventNumber(0, 1, y.events(0, 1) - 1, true));
            Tale.does(y, 0, 100 + i, 0);
            Tale.decides(y, 0, 1);
        }
        Tale.stands(y, 0, FAILED, 2, NONE);
        // The list has no end: behind a hundred UNDOs it is still the latest one first.
        Flowkeeper many = Tale.started(0, WAIT, 0, 0, UNDO, 1, 0, UNDO, 2, 0, UNDO, 3, 0, UNDO, 4, 0, UNDO, 5, 0,
                UNDO, 1, 0, UNDO, 2, 0, UNDO, 3, 0, UNDO, 4, 0, UNDO, 0, 0, BACK, 10, 11);
        for (int i = 1; i <= 10; i++) {
            Tale.signals(many, 0, 0, i);
        }
        Tale.cancels(many, 0);
        Tale.decides(many, 0, 1);
        Tale.stands(many, 0, ENDED, 10, NONE);
        many.start(0, 0, 0);
        for (int i = 1; i <= 10; i++) {
            Tale.signals(many, 1, 0, -i);
        }
        Tale.cancels(many, 1);
        many.decide(1, 1);
        int[] kinds = {0, 4, 3, 2, 1, 5, 4, 3, 2, 1, 0, 4, 3, 2, 1};
        for (int i = 0; i < kinds.length; i++) {
            Check.due("the kind of UNDOING " + i, kinds[i], () -> many.eventNumber(1, 1, many.events(1, 1) - 1, true));
            Tale.does(many, 0, 1100 + i, 0);
            many.tick(1);
            Tale.decides(many, 1, 1);
        }
        // With nothing to be undone it is over at once.
        Flowkeeper z = Tale.started(5, WAIT, 0, 0);
        Tale.cancels(z, 0);
        Tale.decides(z, 0, 1);
        Tale.stands(z, 0, CANCELLED, 5, NONE);
    }

    private static void overThen() {
        Edge.term("then the run is FAILED with the number, or CANCELLED with 0.");
        int[] numbers = {1, 9};
        for (int number : numbers) {
            Flowkeeper x = Tale.started(5, UNDO, 1, 0, FAIL, number, 0);
            x.decide(0, 1);
            Check.due("not while it undoes", RUNNING, () -> x.state(0, 1));
            Tale.does(x, 0, 100, 0);
            Tale.decides(x, 0, 1);
            Tale.behind(x, 0, 5, "OVER 22 " + number);
        }
        Flowkeeper y = Tale.started(5, UNDO, 1, 0, WAIT, 0, 0);
        Tale.cancels(y, 0);
        y.decide(0, 1);
        Check.due("not while it undoes", RUNNING, () -> y.state(0, 1));
        Tale.does(y, 0, 100, 0);
        Tale.decides(y, 0, 1);
        Tale.behind(y, 0, 6, "OVER 23 0");
    }

    private static void waitsForNothingElse() {
        Edge.term("(Nothing else is waited for any more: signals, timers, children, other activities.)");
        Flowkeeper x = Tale.started(5, UNDO, 1, 1, SIDE, 3, 0, WAIT, 0, 30, CHILD, 1, 0, ACT, 0, 0, TELL, 0, 1);
        Tale.version(x, 1, SET, 7, 0);
        x.decide(0, 1);
        Tale.cancels(x, 0);
        Tale.decides(x, 0, 3);
        Tale.signals(x, 0, 0, 1);
        x.decide(1, 1);
        Check.due("the child is over and told", Flowkeeper.CHILD_OVER, () -> x.eventKind(0, 1, x.events(0, 1) - 1));
        Check.due("the activity is off", NONE, () -> x.take(0, 0));
        x.tick(30);
        Tale.decides(x, 0, 0);
        Tale.stands(x, 0, RUNNING, 5, NONE);
        Tale.does(x, 1, 101, 0);
        Tale.decides(x, 0, 1);
        Tale.stands(x, 0, CANCELLED, 5, NONE);
        // What was done in time, but behind the CANCEL, is another activity than the one that undoes.
        Flowkeeper y = Tale.started(5, UNDO, 1, 1, ACT, 0, 0);
        y.decide(0, 1);
        Tale.cancels(y, 0);
        Tale.does(y, 0, 100, 0);
        Tale.decides(y, 0, 2);
        Tale.behind(y, 0, 5, "DECIDED 1 0, ACTIVITY_OFF 0 0, UNDOING 1 1");
        Tale.stands(y, 0, RUNNING, 5, NONE);
    }

    /** A run that waits in its first guarded step, is asked to cancel, and goes on. */
    private static Flowkeeper guarded(int... steps) {
        Flowkeeper x = Tale.started(0, steps);
        x.decide(0, 1);
        Tale.cancels(x, 0);
        Tale.signals(x, 0, 0, 0);
        return x;
    }

    private static void guardsSteps() {
        Edge.term("A GUARD guards the next a steps that are gone through behind it (a SIDE counts as one step with those "
                + "behind it;");
        Flowkeeper last = guarded(GUARD, 3, 0, WAIT, 0, 0, TELL, 0, 1, TELL, 0, 2, TELL, 0, 3);
        Tale.decides(last, 0, 3);
        Tale.behind(last, 0, 5, "TOLD 0 1, TOLD 0 2, OVER 23 0");
        // Steps that are left out are not gone through.
        Flowkeeper left = guarded(GUARD, 3, 0, WAIT, 0, 0, SKIP, 1, 2, TELL, 0, 1, TELL, 0, 2, TELL, 0, 3, TELL, 0, 4);
        Tale.decides(left, 0, 2);
        Tale.behind(left, 0, 5, "TOLD 0 3, OVER 23 0");
        // Those of a loop are, each time.
        Flowkeeper loop = guarded(GUARD, 5, 0, WAIT, 0, 0, TELL, 0, 100, ADD, 1, 0, BACK, 9, 2);
        Tale.decides(loop, 0, 3);
        Tale.behind(loop, 0, 5, "TOLD 0 0, TOLD 0 1, OVER 23 0");
        // A SIDE and the three behind it are one.
        Flowkeeper side = guarded(GUARD, 2, 0, SIDE, 3, 0, WAIT, 0, 0, WAIT, 0, 0, WAIT, 0, 0, TELL, 0, 1, TELL, 0, 2);
        Tale.decides(side, 0, 0);
        Tale.signals(side, 0, 0, 0);
        Tale.signals(side, 0, 0, 0);
        Tale.decides(side, 0, 2);
        Tale.behind(side, 0, 8, "TOLD 0 1, OVER 23 0");
        // A GUARD behind the last one is not guarded.
        Flowkeeper behind = guarded(GUARD, 1, 0, WAIT, 0, 0, GUARD, 1, 0, TELL, 0, 1);
        Tale.decides(behind, 0, 1);
        Tale.behind(behind, 0, 5, "OVER 23 0");
    }

    private static void guardsInGuards() {
        Edge.term("another GUARD among them counts, and guards as many as it tells if these are more than are left).");
        int[] tells = Edge.steps(TELL, 0, 1, TELL, 0, 2, TELL, 0, 3, TELL, 0, 4, TELL, 0, 5);
        // Behind the WAIT and the second GUARD two are left of four: fewer, as many and more are told.
        for (int inner = 1; inner <= 4; inner++) {
            Flowkeeper x = guarded(Edge.join(Edge.steps(GUARD, 4, 0, WAIT, 0, 0, GUARD, inner, 0), tells));
            Tale.decides(x, 0, (inner < 2 ? 2 : inner) + 1);
        }
        // It is the last that is guarded, and guards anew.
        Flowkeeper y = guarded(Edge.join(Edge.steps(GUARD, 2, 0, WAIT, 0, 0, GUARD, 1, 0), tells));
        Tale.decides(y, 0, 2);
        // It does not add to what is left.
        Flowkeeper z = guarded(Edge.join(Edge.steps(GUARD, 3, 0, GUARD, 2, 0, WAIT, 0, 0), tells));
        Tale.decides(z, 0, 2);
    }

    private static void cutAtOnce() {
        Edge.term("Behind CANCEL, a run that waits at a step that is not guarded is cut at once: ACTIVITY_OFF is decided "
                + "for each of the activities that it waits for and that are not over, by rising numbers, then TIMER_OFF "
                + "likewise for its timers;");
        Flowkeeper x = Tale.started(5, SIDE, 3, 0, TIMER, 9, 0, ACT, 0, 0, WAIT, 0, 9);
        x.decide(0, 1);
        Tale.cancels(x, 0);
        Tale.decides(x, 0, 4);
        Tale.behind(x, 0, 7, "ACTIVITY_OFF 0 0, TIMER_OFF 0 0, TIMER_OFF 1 0, OVER 23 0");
        // All of them.
        Flowkeeper all = Tale.started(5, ACT, 0, 0, SIDE, 3, 0, ACT, 0, 0, ACT, 0, 0, ACT, 0, 0);
        all.decide(0, 1);
        Tale.does(all, 0, 100, 0);
        all.decide(0, 1);
        Tale.cancels(all, 0);
        Tale.decides(all, 0, 4);
        Tale.behind(all, 0, 10, "ACTIVITY_OFF 1 0, ACTIVITY_OFF 2 0, ACTIVITY_OFF 3 0, OVER 23 0");
        // None of them: what is over is not taken off, LOST ones, fired timers and WAITs with a signal among them.
        Flowkeeper over = Tale.started(5, SIDE, 3, 0, ACT, 0, 0, TIMER, 1, 0, WAIT, 0, 50, TELL, 0, 1);
        over.decide(0, 1);
        Tale.loses(over, 0, 100);
        Tale.cancels(over, 0);
        Tale.decides(over, 0, 2);
        Tale.behind(over, 0, 9, "TIMER_OFF 1 0, OVER 23 0");
        Flowkeeper none = Tale.started(5, SIDE, 3, 0, ACT, 0, 0, WAIT, 0, 50, CHILD, 1, 0);
        none.decide(0, 1);
        Tale.does(none, 0, 100, 0);
        Tale.signals(none, 0, 0, 0);
        Tale.cancels(none, 0);
        Tale.decides(none, 0, 2);
        Tale.behind(none, 0, 8, "DECIDED 1 0, TIMER_OFF 0 0, OVER 23 0");
        // What happens in one decision is taken in order: here the CANCEL comes first, there the DONE.
        for (int first = 0; first <= 1; first++) {
            Flowkeeper y = Tale.started(5, ACT, 0, 0, TELL, 0, 1);
            y.decide(0, 1);
            if (first == 0) {
                Tale.cancels(y, 0);
            }
            Tale.does(y, 0, 100, 0);
            if (first == 1) {
                Tale.cancels(y, 0);
            }
            Tale.decides(y, 0, 2);
            Tale.behind(y, 0, 6, first == 0 ? "ACTIVITY_OFF 0 0, OVER 23 0" : "TOLD 0 1, OVER 21 0");
        }
    }

    private static void cutLater() {
        Edge.term("otherwise it is cut as soon as it comes to a step that is not guarded, ahead of this step (the END "
                + "behind the last one is such a step, guarded if a GUARD has one left).");
        // It waits in guarded steps however often it is decided for.
        Flowkeeper x = Tale.started(5, UNDO, 1, 1, GUARD, 1, 0, ACT, 0, 0, UNDO, 2, 1, TELL, 0, 1);
        x.decide(0, 1);
        Tale.cancels(x, 0);
        Tale.decides(x, 0, 0);
        Tale.stands(x, 0, RUNNING, 5, 2);
        Tale.does(x, 0, 100, 8);
        Tale.decides(x, 0, 1);
        Tale.behind(x, 0, 6, "DECIDED 1 0, UNDOING 1 1");
        Tale.stands(x, 0, RUNNING, 8, NONE);
        // The END that is not there: guarded by the last of a GUARD, or not.
        Flowkeeper unguarded = guarded(GUARD, 1, 0, WAIT, 0, 0);
        Tale.decides(unguarded, 0, 1);
        Tale.stands(unguarded, 0, CANCELLED, 0, NONE);
        Flowkeeper kept = guarded(GUARD, 2, 0, WAIT, 0, 0);
        Tale.decides(kept, 0, 1);
        Tale.stands(kept, 0, ENDED, 0, NONE);
        // An END that is told is a step like others.
        Flowkeeper told = guarded(GUARD, 1, 0, WAIT, 0, 0, END, 0, 0);
        Tale.decides(told, 0, 1);
        Tale.stands(told, 0, CANCELLED, 0, NONE);
        Flowkeeper toldKept = guarded(GUARD, 2, 0, WAIT, 0, 0, END, 0, 0);
        Tale.decides(toldKept, 0, 1);
        Tale.stands(toldKept, 0, ENDED, 0, NONE);
        // So are FAIL and AGAIN: not guarded, it is cut ahead of them.
        Flowkeeper fails = guarded(GUARD, 1, 0, WAIT, 0, 0, FAIL, 3, 0);
        Tale.decides(fails, 0, 1);
        Tale.stands(fails, 0, CANCELLED, 0, NONE);
        Flowkeeper again = guarded(GUARD, 1, 0, WAIT, 0, 0, AGAIN, 0, 0);
        Tale.decides(again, 0, 1);
        Tale.stands(again, 0, CANCELLED, 0, NONE);
        Check.due("it has one run", 1, () -> again.runs(0));
    }

    private static void cancelDoesNothing() {
        Edge.term("While it fails or is cut, CANCEL does nothing.");
        Flowkeeper x = Tale.started(5, UNDO, 1, 1, FAIL, 3, 0);
        x.decide(0, 1);
        Tale.cancels(x, 0);
        Tale.decides(x, 0, 0);
        Tale.does(x, 1, 100, 0);
        Tale.decides(x, 0, 1);
        Tale.behind(x, 0, 7, "OVER 22 3");
        // CANCEL behind what makes it fail, in one decision.
        Flowkeeper y = Tale.started(5, UNDO, 1, 1, WAIT, 0, 0, FAIL, 3, 0);
        y.decide(0, 1);
        Tale.signals(y, 0, 0, 0);
        Tale.cancels(y, 0);
        Tale.decides(y, 0, 1);
        Tale.does(y, 1, 100, 0);
        Tale.decides(y, 0, 1);
        Tale.stands(y, 0, FAILED, 0, NONE);
        // A guarded run that is asked to cancel and fails has FAILED.
        Flowkeeper z = guarded(UNDO, 1, 1, GUARD, 2, 0, WAIT, 0, 0, FAIL, 3, 0);
        Tale.decides(z, 0, 1);
        Tale.does(z, 1, 100, 0);
        Tale.decides(z, 0, 1);
        Tale.stands(z, 0, FAILED, 0, NONE);
    }

    /** So many steps ahead of the last ones: those of a loop, two in each turn, and one more if the number is odd. */
    private static int[] before(int steps, int... last) {
        int turns = steps / 2;
        int[] odd = steps % 2 == 1 ? Edge.steps(SET, 0, 0) : new int[0];
        return Edge.join(odd, Edge.steps(ADD, 1, 0, BACK, turns, 1), last);
    }

    private static void sixtySteps() {
        Edge.term("A run goes through at most 60 steps between two things that happen (those of a SIDE are not counted, "
                + "nor is the END behind the last step);");
        Flowkeeper x = Tale.started(0, before(60));
        Tale.decides(x, 0, 1);
        Tale.stands(x, 0, ENDED, 30, NONE);
        Flowkeeper waits = Tale.started(0, before(59, ACT, 0, 0));
        Tale.decides(waits, 0, 1);
        Tale.stands(waits, 0, RUNNING, 29, 3);
        // Behind each thing that happens the count begins anew, that of the step at which it waits, too.
        Flowkeeper anew = Tale.started(0, Edge.join(before(59, WAIT, 0, 0), before(60)));
        Tale.signals(anew, 0, 0, 0);
        Tale.decides(anew, 0, 1);
        Tale.stands(anew, 0, ENDED, 30, NONE);
        // A SIDE is one step, whatever it begins.
        Flowkeeper side = Tale.started(0, before(59, SIDE, 3, 0, ACT, 0, 0, TIMER, 1, 0, WAIT, 0, 0));
        Tale.decides(side, 0, 2);
        Tale.stands(side, 0, RUNNING, 29, 3);
        // Each of these is the 60th step.
        int[][] others = {{SKIP, -99, 1, SET, 0, 0}, {SET, 29, 0}, {UNDO, 1, 0}, {GUARD, 1, 0}, {TELL, 0, 1},
            {MARK, 0, 1, SET, 0, 0}, {AGAIN, 0, 0}, {FAIL, 5, 0}, {END, 0, 0}};
        for (int[] other : others) {
            int[] ends = other.length > 3 ? Edge.join(before(58, other)) : before(59, other);
            Flowkeeper y = Tale.started(0, ends);
            y.decide(0, 1);
            int over = y.events(0, 1) - 1;
            Check.holds("it did not fail with 9: " + other[0],
                    () -> Check.truth(y.eventKind(0, 1, over) == Flowkeeper.OVER && y.eventNumber(0, 1, over, false) != 9));
        }
    }

    private static void fails() {
        Edge.term("at the next one it fails with 9.");
        int[][] others = {{ACT, 0, 0}, {TIMER, 1, 0}, {WAIT, 0, 0}, {CHILD, 0, 0}, {SIDE, 1, 0, ACT, 0, 0}, {SET, 1, 0},
            {UNDO, 1, 0}, {GUARD, 1, 0}, {TELL, 0, 1}, {MARK, 0, 1, SET, 0, 0}, {AGAIN, 0, 0}, {FAIL, 5, 0},
            {END, 0, 0}};
        for (int[] other : others) {
            Flowkeeper x = Tale.started(0, before(60, other));
            Tale.decides(x, 0, 1);
            Tale.behind(x, 0, 2, "OVER 22 9");
            Tale.stands(x, 0, FAILED, 30, NONE);
        }
        // What it has decided up to then stays, and what it has put on the list is undone.
        Flowkeeper y = Tale.started(0, Edge.join(Edge.steps(UNDO, 1, 1, TELL, 0, 7), before(60)));
        Tale.decides(y, 0, 2);
        Tale.behind(y, 0, 2, "TOLD 0 7, UNDOING 1 1");
        Tale.does(y, 1, 100, 0);
        Tale.decides(y, 0, 1);
        Tale.behind(y, 0, 6, "OVER 22 9");
        // Ahead of a step that is not guarded it is cut, though this would be one too many; if it is guarded, it fails.
        for (int left = 2; left <= 3; left++) {
            Flowkeeper z = guarded(GUARD, 2, 0, WAIT, 0, 0, GUARD, 3, 0, ADD, 1, 0, BACK, 19, 2, GUARD, left, 0,
                    SET, 7, 0, SET, 8, 0, SET, 9, 0);
            Tale.decides(z, 0, 1);
            Tale.stands(z, 0, left == 2 ? CANCELLED : FAILED, 8, NONE);
        }
    }
}
