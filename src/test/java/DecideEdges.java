/** The sentences under 'Deciding', and of the promises 9 and 28 to 33. */
final class DecideEdges implements Words {
    private DecideEdges() {
    }

    static void all() {
        playedAgain();
        mismatch();
        putBehind();
        whatFollows();
        nothingToDo();
        putOnQueue();
        takenOff();
        timerSet();
        childMade();
        noRoomForChild();
        keptAlone();
        over();
        overChildren();
        tellsParent();
        again();
        fullHistory();
        tooLong();
        tooLongLeaves();
        decide();
        property();
        found();
        isDue();
        register();
        place();
        registerAnew();
    }

    /** Version 1 and then version 2 of the type 0; the workflow 0 is decided for once with the first one. */
    private static Flowkeeper two(int[] first, int... second) {
        Flowkeeper x = Tale.started(5, first);
        Tale.version(x, 0, second);
        x.decide(0, 1);
        return x;
    }

    private static void playedAgain() {
        Edge.term("To decide for a workflow with a version of its type: its latest run is played again from its history: "
                + "for each DECIDED there, what happened ahead of it is taken, and what the program of this version does "
                + "must be just what follows it.");
        Flowkeeper x = two(Edge.steps(ACT, 0, 0, ACT, 1, 0, ACT, 2, 0), ACT, 0, 0, ACT, 1, 0, ACT, 3, 0);
        Tale.does(x, 0, 100, 1);
        Check.due("the first DECIDED is the same", 1, () -> x.decide(0, 2));
        Tale.does(x, 0, 101, 1);
        Check.due("both are the same", 1, () -> x.decide(0, 1));
        Tale.does(x, 0, 102, 1);
        Check.due("the third is not", MISMATCH, () -> x.decide(0, 2));
        Check.due("decide", 1, () -> x.decide(0, 1));
        // Of the latest run alone.
        Flowkeeper y = two(Edge.steps(TELL, 0, 1, AGAIN, 0, 0), WAIT, 0, 0);
        Check.due("nothing was decided in the second run", 0, () -> y.decide(0, 2));
        // Of its type: a version of another type is none.
        Check.outside("a third version", () -> y.decide(0, 3));
        // From its history alone: nothing is left of another run that was played before.
        Flowkeeper z = Tale.started(5, UNDO, 1, 1, MARK, 0, 1, GUARD, 11, 0, WAIT, 0, 9);
        Tale.version(z, 1, WAIT, 0, 0);
        Tale.version(z, 1, SET, 7, 0);
        Tale.version(z, 1, MARK, 0, 1, FAIL, 1, 0);
        for (int i = 1; i <= 3; i++) {
            z.start(1, 0, 0);
            z.decide(0, 1);
            Tale.signals(z, 0, 1, 0);
            Tale.signals(z, i, 0, 3);
            Tale.cancels(z, i);
            int n = i;
            Check.due("decide", i == 3 ? 2 : 1, () -> z.decide(n, n));
            Tale.behind(z, i, 4, new String[] {"OVER 21 3", "OVER 21 7", "MARKED 0 0, OVER 22 1"}[i - 1]);
        }
        z.start(1, 0, 0);
        z.decide(0, 1);
        Tale.cancels(z, 4);
        Tale.decides(z, 4, 1);
        Tale.stands(z, 4, CANCELLED, 0, NONE);
    }

    private static void mismatch() {
        Edge.term("If something differs, it is a MISMATCH, and nothing changes.");
        int[] first = Edge.steps(TELL, 0, 7, ACT, 1, 1);
        // Less, more, another kind, and another first and second number; and first of all the same.
        int[][] others = {first, {ACT, 1, 1}, {TELL, 0, 7, WAIT, 0, 0}, {TELL, 0, 7, UNDO, 1, 1, FAIL, 1, 0},
            {TELL, 0, 7, SIDE, 2, 0, ACT, 1, 1, ACT, 1, 1}, {TELL, 0, 7, TELL, 0, 7, ACT, 1, 1}, {TELL, 1, 7, ACT, 1, 1},
            {TELL, 0, 8, ACT, 1, 1}, {TELL, 0, 7, ACT, 2, 1}, {TELL, 0, 7, ACT, 1, 0}, {ACT, 1, 1, TELL, 0, 7}};
        for (int i = 0; i < others.length; i++) {
            Flowkeeper x = two(first, others[i]);
            Tale.signals(x, 0, 2, 3);
            String before = Look.at(x);
            if (i > 0) {
                Check.due("decide with the program " + i, MISMATCH, () -> x.decide(0, 2));
                Check.same("all is as it was", before, Look.at(x));
            }
            int fitting = i == 0 ? 2 : 1;
            Check.due("decide", 0, () -> x.decide(0, fitting));
            Tale.does(x, 1, 100, 4);
        }
    }

    private static void putBehind() {
        Edge.term("Otherwise DECIDED is put behind the history, what has happened since is taken, and what the program "
                + "does is put behind that.");
        Flowkeeper x = Tale.started(5, WAIT, 0, 0, TELL, 0, 100, WAIT, 1, 0, TELL, 1, 100, WAIT, 2, 0);
        Tale.decides(x, 0, 0);
        Tale.signals(x, 0, 0, 1);
        Tale.signals(x, 0, 1, 2);
        Tale.decides(x, 0, 2);
        Tale.all(x, 0, "STARTED 5 0, DECIDED 1 0, SIGNAL 0 1, SIGNAL 1 2, DECIDED 1 0, TOLD 0 1, TOLD 1 2");
    }

    private static void whatFollows() {
        Edge.term("What follows a DECIDED is what is decided, up to the next thing that happens, the next DECIDED or the "
                + "end.");
        // Nothing, up to the end and up to a thing that happens: the program that decides nothing fits, no other.
        Flowkeeper x = two(Edge.steps(WAIT, 0, 0), TELL, 0, 1, WAIT, 0, 0);
        Check.due("up to the end", 5, () -> x.registerAnew(0, 1));
        Check.due("it decides more", -2000, () -> x.registerAnew(0, 2));
        Tale.signals(x, 0, 1, 0);
        Check.due("up to a thing that happens", 5, () -> x.registerAnew(0, 1));
        Check.due("it decides more", -2000, () -> x.registerAnew(0, 2));
        // CHILD_OVER that happens at once, behind all that is decided, is not decided.
        Flowkeeper y = Tale.started(5, TELL, 0, 1, CHILD, 0, 0, TELL, 0, 2);
        for (int i = 1; i < 10; i++) {
            y.start(0, 0, 0);
        }
        Check.due("decided", 2, () -> y.decide(0, 1));
        Check.due("played again", 5, () -> y.registerAnew(0, 1));
        Check.due("decided", 2, () -> y.decide(0, 1));
        Check.due("played again", -1, () -> y.registerAnew(0, 1));
    }

    private static void nothingToDo() {
        Edge.term("If nothing has happened since the latest DECIDED, nothing is to be done (that is asked first).");
        Flowkeeper x = two(Edge.steps(ACT, 0, 0), ACT, 1, 0);
        Check.due("nothing has happened", NONE, () -> x.decide(0, 1));
        Check.due("asked ahead of what differs", NONE, () -> x.decide(0, 2));
        Tale.all(x, 0, "STARTED 5 0, DECIDED 1 0, ACTIVITY 0 0");
        x.take(0, 0);
        x.tick(10);
        Check.due("a lease that ends is nothing that happens", NONE, () -> x.decide(0, 1));
        Tale.signals(x, 0, 2, 0);
        Check.due("a signal is, whether it waits for it or not", 0, () -> x.decide(0, 1));
        Check.due("nothing has happened since", NONE, () -> x.decide(0, 1));
    }

    private static void putOnQueue() {
        Edge.term("When something is decided: ACTIVITY and UNDOING put an activity on its queue, ready at once.");
        Flowkeeper x = Tale.started(5, UNDO, 1, 0, SIDE, 2, 0, ACT, 0, 1, WAIT, 0, 0, FAIL, 1, 0);
        Check.due("nothing is decided", 0, () -> x.ready(0) + x.ready(1));
        x.decide(0, 1);
        Check.due("ready at once", 1, () -> x.ready(1));
        Check.due("not on the other queue", 0, () -> x.ready(0));
        Tale.does(x, 1, 100, 0);
        Tale.signals(x, 0, 0, 0);
        x.decide(0, 1);
        Check.due("UNDOING, ready at once", 1, () -> x.ready(0));
        Tale.does(x, 0, 101, 0);
    }

    private static void takenOff() {
        Edge.term("ACTIVITY_OFF takes it off, whoever has it.");
        Flowkeeper x = Tale.started(5, UNDO, 1, 1, SIDE, 3, 0, ACT, 0, 0, ACT, 0, 0, ACT, 0, 0);
        x.decide(0, 1);
        // One is leased, one rests, one is ready.
        Check.due("take", 100, () -> x.take(3, 0));
        Check.due("take", 101, () -> x.take(2, 0));
        x.fail(2);
        Tale.cancels(x, 0);
        Check.due("not yet", 100, () -> x.has(3));
        Tale.decides(x, 0, 4);
        Check.due("who has it has nothing", NONE, () -> x.has(3));
        Check.state("nothing to end", () -> x.end(3, 0));
        Check.due("none is ready", 0, () -> x.ready(0));
        int events = x.events(0, 1);
        x.tick(50);
        Check.due("none is ready later", 0, () -> x.ready(0));
        Check.due("nothing happens", events, () -> x.events(0, 1));
        Check.due("who had it is free", 103, () -> x.take(3, 1));
        // A stopped worker's activity is leased to nobody any more.
        Flowkeeper y = Tale.started(5, UNDO, 1, 1, ACT, 0, 0);
        y.decide(0, 1);
        y.take(0, 0);
        y.run(0, false);
        Tale.cancels(y, 0);
        Tale.decides(y, 0, 2);
        y.tick(20);
        Check.due("none is ready", 0, () -> y.ready(0));
    }

    private static void timerSet() {
        Edge.term("TIMER_SET lets a timer fire so many ticks later, if TIMER_OFF does not come first.");
        Flowkeeper x = Tale.started(5, SIDE, 2, 0, TIMER, 3, 0, WAIT, 0, 3);
        x.tick(7);
        x.decide(0, 1);
        x.tick(2);
        Check.due("not yet", 4, () -> x.events(0, 1));
        Tale.signals(x, 0, 0, 0);
        Tale.decides(x, 0, 1);
        x.tick(1);
        Tale.behind(x, 0, 7, "FIRED 0 0");
        x.tick(10);
        Check.due("only once", 8, () -> x.events(0, 1));
    }

    private static void childMade() {
        Edge.term("CHILD_MADE makes a workflow of this type, with the tenant of its parent, whose first run begins with the "
                + "register that the parent has then;");
        Flowkeeper x = new Flowkeeper();
        Tale.version(x, 0, Edge.join(Edge.times(10, ADD, 99, 0), Edge.steps(CHILD, 2, 0)));
        Tale.version(x, 2, ACT, 0, 0);
        x.start(0, 2, 99);
        x.decide(0, 1);
        Tale.all(x, 1, "STARTED 999 0");
        x.decide(1, 1);
        x.take(0, 0);
        Check.due("its tenant", 1, () -> x.taken(0, 2));
        Check.due("it is its first run", 1, () -> x.runs(1));
        Check.due("its properties are its own", 0, () -> x.property(1, 0));
    }

    /** Ten workflows, and so many of them made by the first one. */
    private static Flowkeeper full(int children, int... steps) {
        Flowkeeper x = Tale.started(5, steps);
        Tale.version(x, 1, SET, 6, 0);
        for (int i = 1; i < 10 - children; i++) {
            x.start(0, 0, 5);
        }
        return x;
    }

    private static void noRoomForChild() {
        Edge.term("if there are 10 already, CHILD_OVER happens to the run at once, behind all that is decided, with -1 as "
                + "the result.");
        Flowkeeper last = full(1, CHILD, 1, 0, TELL, 0, 100);
        Tale.decides(last, 0, 1);
        Tale.behind(last, 0, 2, "CHILD_MADE 1 0");
        Check.due("the tenth one is made", 10, last::workflows);
        Flowkeeper none = full(0, SIDE, 2, 0, CHILD, 1, 2, ACT, 0, 0, TELL, 0, 100);
        Tale.decides(none, 0, 2);
        Tale.behind(none, 0, 2, "CHILD_MADE 1 2, ACTIVITY 0 0, CHILD_OVER 0 -1");
        Check.due("there are ten", 10, none::workflows);
        Tale.does(none, 0, 100, 3);
        Tale.decides(none, 0, 2);
        // The last place goes to the first of three, and numbers go on with those that were not made.
        Flowkeeper three = full(1, SIDE, 3, 0, CHILD, 1, 0, CHILD, 1, 0, CHILD, 1, 0, CHILD, 1, 0);
        Tale.decides(three, 0, 3);
        Tale.behind(three, 0, 5, "CHILD_OVER 1 -1, CHILD_OVER 2 -1");
        three.decide(9, 1);
        Tale.decides(three, 0, 1);
        Tale.behind(three, 0, 7, "CHILD_OVER 0 6, DECIDED 1 0, CHILD_MADE 1 0, CHILD_OVER 3 -1");
        // A child that is over has its place still.
        Check.due("there are ten", 10, three::workflows);
        // What happens to a run whose history has 78 events is lost: of two the second.
        Flowkeeper long78 = full(0, SIDE, 2, 0, CHILD, 1, 0, CHILD, 1, 0);
        Edge.fill(long78, 0, 0, 74);
        Tale.decides(long78, 0, 2);
        Tale.behind(long78, 0, 74, "DECIDED 1 0, CHILD_MADE 1 0, CHILD_MADE 1 0, CHILD_OVER 0 -1");
    }

    private static void keptAlone() {
        Edge.term("MARKED and TOLD are just kept; TOLD changes the property.");
        Flowkeeper x = Tale.started(5, MARK, 0, 1, TELL, 1, 7, WAIT, 0, 0);
        x.start(0, 0, 5);
        Tale.decides(x, 0, 2);
        Tale.behind(x, 0, 2, "MARKED 0 0, TOLD 1 7");
        Check.due("the property", 7, () -> x.property(0, 1));
        Check.due("the other one", 0, () -> x.property(0, 0));
        Check.due("that of another workflow", 0, () -> x.property(1, 1));
        Check.due("nothing else has come of them", 0, () -> x.ready(0) + x.ready(1));
        x.tick(50);
        Check.due("nothing happens", 4, () -> x.events(0, 1));
    }

    private static void over() {
        Edge.term("OVER: activities of the run that are not over are taken off their queues, its timers do not fire, and to "
                + "each child that is RUNNING happens what was told: a cancel is asked for, or it is STOPPED: its "
                + "activities, timers and children are treated like those of a run that is OVER, and no event tells it.");
        // Only a history that is too long ends a run that waits for activities and timers without taking them off.
        Flowkeeper x = Tale.started(5, SIDE, 3, 0, ACT, 0, 0, ACT, 0, 0, TIMER, 5, 0);
        x.decide(0, 1);
        Check.due("take", 100, () -> x.take(2, 0));
        Edge.fill(x, 0, 0, 77);
        Tale.decides(x, 0, 1);
        Tale.stands(x, 0, FAILED, 5, NONE);
        Check.due("who has it has nothing", NONE, () -> x.has(2));
        Check.due("none is ready", 0, () -> x.ready(0));
        x.tick(20);
        Check.due("no timer fires, no lease ends", 79, () -> x.events(0, 1));
        Check.due("none is ready", 0, () -> x.ready(0));
    }

    /** What was told, one after the other, and that down to grandchildren. */
    private static void overChildren() {
        Edge.term("to each child that is RUNNING happens what was told: a cancel is asked for, or it is STOPPED: its "
                + "activities, timers and children are treated like those of a run that is OVER, and no event tells it.");
        Flowkeeper x = Tale.started(5, SIDE, 3, 0, CHILD, 1, 0, CHILD, 1, 1, CHILD, 1, 2);
        Tale.version(x, 1, SIDE, 3, 0, ACT, 0, 0, TIMER, 2, 0, CHILD, 2, 2);
        Tale.version(x, 2, ACT, 0, 1);
        for (int i = 0; i < 7; i++) {
            x.decide(i, 1);
        }
        Check.due("a grandchild of each child", 7, x::workflows);
        Check.due("of the third child", 3, () -> x.parent(6));
        Check.due("take of the first child", 1100, () -> x.take(0, 0));
        Check.due("ready", 2, () -> x.ready(0));
        Check.due("ready of the grandchildren", 3, () -> x.ready(1));
        Tale.cancels(x, 0);
        Tale.decides(x, 0, 1);
        Tale.behind(x, 1, 5, "");
        Tale.behind(x, 2, 5, "CANCEL 0 0");
        Tale.behind(x, 3, 5, "");
        Check.due("it goes on", RUNNING, () -> x.state(1, 1));
        Check.due("it is asked to cancel", RUNNING, () -> x.state(2, 1));
        Check.due("it is STOPPED", STOPPED, () -> x.state(3, 1));
        Check.due("its child, too", STOPPED, () -> x.state(6, 1));
        Check.due("no event tells that", 3, () -> x.events(6, 1));
        Check.due("those of the others are not", RUNNING, () -> x.state(4, 1));
        Check.due("ready without that of the third child", 1, () -> x.ready(0));
        Check.due("ready without that of its child", 2, () -> x.ready(1));
        Check.due("that of the first child is leased still", 1100, () -> x.has(0));
        x.tick(2);
        Check.due("the timer of the second child fires", 7, () -> x.events(2, 1));
        Check.due("that of the STOPPED one does not", 5, () -> x.events(3, 1));
        // What is over is left as it is, and nothing happens to a child that is STOPPED.
        Flowkeeper y = Tale.started(5, SIDE, 2, 0, CHILD, 1, 2, CHILD, 1, 1);
        Tale.version(y, 1, SET, 6, 0);
        y.decide(0, 1);
        y.decide(1, 1);
        y.decide(2, 1);
        Tale.version(y, 0, SIDE, 2, 0, CHILD, 1, 2, CHILD, 1, 1, FAIL, 2, 0);
        Check.due("decide", 1, () -> y.decide(0, 2));
        Check.due("it has ENDED", ENDED, () -> y.state(1, 1));
        Check.due("it has ENDED", ENDED, () -> y.state(2, 1));
        Check.due("without a CANCEL", 3, () -> y.events(2, 1));
        // As deep as workflows can go: each one is the child of the one ahead of it.
        Flowkeeper deep = Tale.started(5, SIDE, 2, 0, CHILD, 0, 2, ACT, 0, 0);
        for (int i = 0; i < 10; i++) {
            Tale.decides(deep, i, 2);
        }
        Check.due("all are children but the first", 8, () -> deep.parent(9));
        Check.due("ready", 10, () -> deep.ready(0));
        Tale.cancels(deep, 0);
        Tale.decides(deep, 0, 2);
        for (int i = 1; i < 10; i++) {
            int child = i;
            Check.due("child " + child, STOPPED, () -> deep.state(child, 1));
        }
        Check.due("none is ready", 0, () -> deep.ready(0));
    }

    private static void tellsParent() {
        Edge.term("If it has a parent that is RUNNING in the run that made it, and it is not AGAIN, CHILD_OVER happens to "
                + "that: the result is that of ENDED, -1 of others.");
        int[][] ends = {{SET, 99, 0}, {FAIL, 9, 0}, {WAIT, 0, 0}, {WAIT, 0, 0}, {AGAIN, 0, 0}};
        String[] tells = {"CHILD_OVER 0 99", "CHILD_OVER 0 -1", "CHILD_OVER 0 -1", "CHILD_OVER 0 -1", ""};
        for (int i = 0; i < ends.length; i++) {
            Flowkeeper x = Tale.started(5, CHILD, 1, 0);
            Tale.version(x, 1, ends[i]);
            x.decide(0, 1);
            if (i == 2) {
                Tale.cancels(x, 1);
            }
            if (i == 3) {
                Edge.fill(x, 1, 1, 78);
            }
            Tale.decides(x, 1, 1);
            Tale.behind(x, 0, 3, tells[i]);
        }
        // A parent that is over, and one that has none: nothing happens.
        Flowkeeper y = Tale.started(5, CHILD, 1, 0);
        Tale.version(y, 1, SET, 99, 0);
        y.decide(0, 1);
        Tale.cancels(y, 0);
        y.decide(0, 1);
        int events = y.events(0, 1);
        Tale.decides(y, 1, 1);
        Check.due("events of the parent", events, () -> y.events(0, 1));
        // A child that was AGAIN tells the end of its last run.
        Flowkeeper z = Tale.started(5, CHILD, 1, 0);
        Tale.version(z, 1, ADD, 1, 0, AGAIN, 0, 0);
        z.decide(0, 1);
        for (int run = 1; run <= 8; run++) {
            Tale.decides(z, 1, 1);
            Check.due("events of the parent", 3, () -> z.events(0, 1));
        }
        Tale.decides(z, 1, 1);
        Tale.behind(z, 0, 3, "CHILD_OVER 0 -1");
    }

    private static void again() {
        Edge.term("AGAIN begins the next run, whose STARTED has the register;");
        Flowkeeper x = Tale.started(99, Edge.join(Edge.times(11, ADD, 99, 0), Edge.steps(AGAIN, 0, 0)));
        x.decide(0, 1);
        Check.due("the next run", 2, () -> x.runs(0));
        Tale.all(x, 0, "STARTED 999 0");
        Tale.stands(x, 0, RUNNING, 0, NONE);
        Edge.term("signals that were not taken happen to it at once, in their order;");
        Flowkeeper y = Tale.started(5, WAIT, 1, 0, WAIT, 1, 0, AGAIN, 0, 0);
        Tale.signals(y, 0, 2, 1);
        Tale.signals(y, 0, 1, 2);
        Tale.signals(y, 0, 0, 3);
        Tale.signals(y, 0, 1, 4);
        Tale.signals(y, 0, 1, 5);
        Tale.signals(y, 0, 2, 6);
        Tale.decides(y, 0, 1);
        Tale.all(y, 0, "STARTED 4 0, SIGNAL 2 1, SIGNAL 0 3, SIGNAL 1 5, SIGNAL 2 6");
        Tale.signals(y, 0, 1, 7);
        Tale.decides(y, 0, 1);
        Tale.all(y, 0, "STARTED 7 0, SIGNAL 2 1, SIGNAL 0 3, SIGNAL 2 6");
        Flowkeeper none = Tale.started(5, WAIT, 1, 0, AGAIN, 0, 0);
        Tale.signals(none, 0, 1, 2);
        Tale.decides(none, 0, 1);
        Tale.all(none, 0, "STARTED 2 0");
        // The 78th event, too, is taken or not: with OVER the history is full.
        for (int which = 0; which <= 1; which++) {
            Flowkeeper last = Tale.started(5, WAIT, 1, 0, AGAIN, 0, 0);
            last.decide(0, 1);
            Edge.fill(last, 0, 2, which == 1 ? 77 : 76);
            Tale.signals(last, 0, 1, 4);
            if (which == 0) {
                Tale.signals(last, 0, 0, 9);
            }
            Check.due("AGAIN", 1, () -> last.decide(0, 1));
            Check.due("events of the run before", 80, () -> last.events(0, 1));
            Check.due("STARTED and what was not taken", 76, () -> last.events(0, 2));
            Tale.behind(last, 0, 75, which == 1 ? "SIGNAL 2 0" : "SIGNAL 0 9");
        }
        Edge.term("a cancel that was asked for and did nothing yet, too, behind them.");
        Flowkeeper z = Tale.started(5, GUARD, 2, 0, WAIT, 1, 0, AGAIN, 0, 0);
        Tale.cancels(z, 0);
        Tale.signals(z, 0, 1, 2);
        Tale.signals(z, 0, 2, 3);
        Tale.decides(z, 0, 1);
        Tale.all(z, 0, "STARTED 2 0, SIGNAL 2 3, CANCEL 0 0");
        Check.due("it was asked for", 0, () -> Check.truth(z.cancel(0)));
        Tale.signals(z, 0, 1, 4);
        Tale.decides(z, 0, 1);
        Tale.all(z, 0, "STARTED 4 0, SIGNAL 2 3, CANCEL 0 0");
        Edge.term("Properties stay.");
        Flowkeeper v = Tale.started(5, SKIP, 6, 1, WAIT, 0, 0, TELL, 0, -99, TELL, 1, 99, SET, 6, 0, AGAIN, 0, 0);
        Tale.decides(v, 0, 3);
        Check.due("property 0", -99, () -> v.property(0, 0));
        Check.due("property 1", 99, () -> v.property(0, 1));
        Tale.decides(v, 0, 0);
        Check.due("property 0", -99, () -> v.property(0, 0));
    }

    private static void fullHistory() {
        Edge.term("What happens to a run whose history has 78 events is lost.");
        // Each thing that can happen, with 77 events and with 78.
        for (int events = 77; events <= 78; events++) {
            int more = 78 - events;
            String[] ways = {"SIGNAL 0 0", "CANCEL 0 0", "DONE 0 4", "LOST 0 0", "FIRED 0 0", "CHILD_OVER 0 6"};
            for (String way : ways) {
                Flowkeeper y = Tale.started(5, SIDE, 3, 0, ACT, 0, 0, TIMER, 7, 0, CHILD, 1, 0);
                Tale.version(y, 1, SET, 6, 0);
                y.decide(0, 1);
                Edge.fill(y, 0, 0, events);
                happen(y, way, more);
                Tale.behind(y, 0, events, more == 1 ? way : "");
                Check.due("events", 78, () -> y.events(0, 1));
            }
        }
    }

    private static void happen(Flowkeeper x, String way, int want) {
        switch (way.charAt(0)) {
            case 'S' -> Check.due(way, want, () -> Check.truth(x.signal(0, 0, 0)));
            case 'D' -> {
                x.take(0, 0);
                Check.due(way, want, () -> Check.truth(x.end(0, 4)));
                Check.due("the activity is over in any case", NONE, () -> x.has(0));
            }
            case 'L' -> Tale.loses(x, 0, 100);
            case 'F' -> x.tick(7);
            default -> {
                if (way.startsWith("CANCEL")) {
                    Check.due(way, want, () -> Check.truth(x.cancel(0)));
                } else {
                    Tale.decides(x, 1, 1);
                }
            }
        }
    }

    private static void tooLong() {
        Edge.term("If a history would have more than 77 events by a decision that leaves the run RUNNING, or more than 80 by "
                + "another one, only DECIDED and OVER are put behind it, FAILED with 8;");
        int[] tells = Edge.times(3, TELL, 0, 7);
        for (int events = 72; events <= 78; events++) {
            // Three that are told, and an activity, or the end.
            Flowkeeper waits = Tale.started(5, Edge.join(tells, Edge.steps(ACT, 0, 0)));
            Edge.fill(waits, 0, 0, events);
            boolean fits = events + 1 + 4 <= 77;
            Tale.decides(waits, 0, fits ? 4 : 1);
            Tale.behind(waits, 0, events, fits ? "DECIDED 1 0, TOLD 0 7, TOLD 0 7, TOLD 0 7, ACTIVITY 0 0"
                    : "DECIDED 1 0, OVER 22 8");
            Flowkeeper ends = Tale.started(5, tells);
            Edge.fill(ends, 0, 0, events);
            boolean fitsToo = events + 1 + 4 <= 80;
            Tale.decides(ends, 0, fitsToo ? 4 : 1);
            Tale.behind(ends, 0, events, fitsToo ? "DECIDED 1 0, TOLD 0 7, TOLD 0 7, TOLD 0 7, OVER 21 5"
                    : "DECIDED 1 0, OVER 22 8");
            // AGAIN, CANCELLED and FAILED do not leave it RUNNING either; UNDOING does.
            Flowkeeper again = Tale.started(5, Edge.join(tells, Edge.steps(AGAIN, 0, 0)));
            Edge.fill(again, 0, 0, events);
            Tale.decides(again, 0, fitsToo ? 4 : 1);
            Check.due("runs", fitsToo ? 2 : 1, () -> again.runs(0));
            Flowkeeper cut = Tale.started(5, Edge.join(tells, Edge.steps(WAIT, 1, 0)));
            Tale.cancels(cut, 0);
            Edge.fill(cut, 0, 0, events);
            Tale.decides(cut, 0, fitsToo ? 4 : 1);
            Check.due("state", fitsToo ? CANCELLED : FAILED, () -> cut.state(0, 1));
            Flowkeeper undoes = Tale.started(5, Edge.join(Edge.steps(UNDO, 1, 1), tells, Edge.steps(FAIL, 3, 0)));
            Edge.fill(undoes, 0, 0, events);
            Tale.decides(undoes, 0, fits ? 4 : 1);
            Check.due("state", fits ? RUNNING : FAILED, () -> undoes.state(0, 1));
        }
        // Nothing decided at all: 76 events and DECIDED are as many as there may be.
        for (int events = 76; events <= 78; events++) {
            Flowkeeper x = Tale.started(5, WAIT, 1, 0);
            Edge.fill(x, 0, 0, events);
            Tale.decides(x, 0, events == 76 ? 0 : 1);
            Check.due("state", events == 76 ? RUNNING : FAILED, () -> x.state(0, 1));
        }
        // A short history can be too long by what is decided at once, be it as many as there are places or far more.
        for (int signals : new int[] {7, 8, 30}) {
            Flowkeeper y = Tale.started(5, Edge.join(Edge.times(10, TELL, 0, 7), Edge.steps(WAIT, 0, 0, BACK, 99, 11)));
            for (int i = 0; i < signals; i++) {
                Tale.signals(y, 0, 0, 0);
            }
            Tale.decides(y, 0, 1);
            Tale.behind(y, 0, signals + 1, "DECIDED 1 0, OVER 22 8");
        }
    }

    private static void tooLongLeaves() {
        Edge.term("nothing is undone, and register() stays as it was.");
        Flowkeeper x = Tale.started(5, UNDO, 1, 1, WAIT, 0, 0, TELL, 1, 7, ACT, 0, 0);
        x.decide(0, 1);
        Tale.signals(x, 0, 0, 33);
        Edge.fill(x, 0, 1, 76);
        Tale.decides(x, 0, 1);
        Tale.behind(x, 0, 76, "DECIDED 1 0, OVER 22 8");
        Check.due("nothing is undone", 0, () -> x.ready(0) + x.ready(1));
        Check.due("nothing is told", 0, () -> x.property(0, 1));
        Tale.stands(x, 0, FAILED, 5, NONE);
        Flowkeeper y = Tale.started(5, WAIT, 0, 0);
        Edge.fill(y, 0, 1, 78);
        Tale.decides(y, 0, 1);
        Check.due("the register, where nothing was decided before", 0, () -> y.register(0));
    }

    /** What a call that takes a workflow and a version says of both, with workflows 0 and 1 and versions 1 to 4. */
    private static void workflowAndVersion(int promise, boolean anew) {
        Flowkeeper x = new Flowkeeper();
        x.start(0, 0, 0);
        x.start(0, 0, 0);
        Edge.says(promise, "Throws `IndexOutOfBoundsException` if there is no such workflow or version");
        Edge.outside("of no versions", 1, 0, v -> call(x, 0, v, anew));
        for (int i = 0; i < 4; i++) {
            Tale.version(x, 0, WAIT, 0, 0);
            Tale.version(x, 1, WAIT, 0, 0);
            int versions = i + 1;
            Edge.outside("version", 1, versions, v -> call(x, 0, v, anew));
        }
        Edge.outside("workflow", 0, 1, w -> call(x, w, 1, anew));
        Edge.says(promise, "- `workflow`: a workflow");
        Edge.allows("workflow", 0, 1, w -> call(x, w, 1, anew));
        Edge.says(promise, "- `version`: a released version of its type");
        Edge.allows("version", 1, 4, v -> call(x, 0, v, anew));
    }

    private static int call(Flowkeeper x, int workflow, int version, boolean anew) {
        return anew ? x.registerAnew(workflow, version) : x.decide(workflow, version);
    }

    private static void decide() {
        workflowAndVersion(9, false);
        Edge.says(9, "Returns how many events are decided, DECIDED not counted; NONE if nothing is to be done; MISMATCH.");
        Flowkeeper x = two(Edge.steps(WAIT, 0, 0, TELL, 0, 1), TELL, 0, 1);
        Check.due("nothing is to be done", NONE, () -> x.decide(0, 1));
        Tale.signals(x, 0, 1, 0);
        Tale.decides(x, 0, 0);
        Tale.signals(x, 0, 0, 0);
        Check.due("something differs", MISMATCH, () -> x.decide(0, 2));
        Tale.decides(x, 0, 2);
        // Many at once, of one thing that happens and of several.
        Flowkeeper most = Tale.started(0, Edge.join(Edge.times(11, TELL, 0, 1), Edge.steps(BACK, 99, 11)));
        Tale.decides(most, 0, 56);
        Flowkeeper y = Tale.started(0, Edge.join(Edge.times(9, TELL, 0, 1), Edge.steps(WAIT, 0, 0, BACK, 5, 10)));
        for (int i = 1; i <= 5; i++) {
            Tale.signals(y, 0, 0, i);
        }
        Tale.decides(y, 0, 46);
        Edge.says(9, "Throws `IllegalStateException` if its latest run is not RUNNING");
        Check.state("one that has ENDED", () -> x.decide(0, 1));
        Check.outside("with a version that there is not", () -> x.decide(0, 3));
        Check.state("one that has FAILED", () -> most.decide(0, 1));
        Flowkeeper cut = Tale.started(0, CHILD, 0, 2);
        cut.decide(0, 1);
        Tale.cancels(cut, 0);
        cut.decide(0, 1);
        Check.state("one that was CANCELLED", () -> cut.decide(0, 1));
        Check.state("one that was STOPPED", () -> cut.decide(1, 1));
        Flowkeeper again = Tale.started(0, AGAIN, 0, 0);
        again.decide(0, 1);
        Tale.decides(again, 0, 1);
    }

    private static void property() {
        Flowkeeper x = Tale.started(5, TELL, 0, -99, TELL, 1, 99);
        x.start(0, 0, 0);
        Edge.says(28, "- `workflow`: a workflow");
        Edge.allows("workflow", 0, 1, w -> x.property(w, 0));
        Edge.says(28, "- `property`: 0 or 1");
        Edge.allows("property", 0, 1, p -> x.property(1, p));
        Edge.says(28, "Returns its value.");
        Check.due("property 0", 0, () -> x.property(0, 0));
        x.decide(0, 1);
        Check.due("property 0", -99, () -> x.property(0, 0));
        Check.due("property 1", 99, () -> x.property(0, 1));
        Check.due("of another workflow", 0, () -> x.property(1, 1));
        Edge.says(28, "Throws `IndexOutOfBoundsException` if there is no such workflow");
        Edge.outside("workflow", 0, 1, w -> x.property(w, 0));
        Edge.outside("workflow, and a property that is none", 0, 1, w -> x.property(w, 2));
        Edge.says(28, "Throws `IllegalArgumentException` if property is out of range");
        Edge.argument("property", 0, 1, p -> x.property(1, p));
    }

    private static void found() {
        Flowkeeper x = new Flowkeeper();
        Edge.says(29, "- `property`: 0 or 1");
        Edge.allows("property", 0, 1, p -> x.found(p, 0, 0));
        Edge.says(29, "Returns how many.");
        Check.due("of no workflows none", 0, () -> x.found(0, Integer.MIN_VALUE, Integer.MAX_VALUE));
        Tale.version(x, 0, TELL, 0, 100, TELL, 1, 7, WAIT, 0, 0, AGAIN, 0, 0);
        for (int i = 0; i < 10; i++) {
            x.start(0, 0, 10 * i);
        }
        Check.due("all ten, 0 at first", 10, () -> x.found(0, 0, 0));
        for (int i = 0; i < 10; i++) {
            x.decide(i, 1);
        }
        Edge.says(29, "- `low`: the least value");
        Check.due("from 50", 5, () -> x.found(0, 50, Integer.MAX_VALUE));
        Check.due("from 51", 4, () -> x.found(0, 51, Integer.MAX_VALUE));
        Check.due("from 91", 0, () -> x.found(0, 91, Integer.MAX_VALUE));
        Edge.says(29, "- `high`: the greatest value");
        Check.due("to 50", 6, () -> x.found(0, Integer.MIN_VALUE, 50));
        Check.due("to 49", 5, () -> x.found(0, Integer.MIN_VALUE, 49));
        Check.due("to -1", 0, () -> x.found(0, Integer.MIN_VALUE, -1));
        Check.due("just 50", 1, () -> x.found(0, 50, 50));
        Check.due("just 7 of the other", 10, () -> x.found(1, 7, 7));
        Edge.says(29, "Throws `IllegalArgumentException` if property is out of range, or low is greater than high");
        Edge.argument("property", 0, 1, p -> x.found(p, 0, 0));
        Check.argument("low is greater by one", () -> x.found(0, 1, 0));
        Check.argument("low is greater", () -> x.found(1, Integer.MAX_VALUE, Integer.MIN_VALUE));
        Check.argument("low is greater than the greatest", () -> x.found(0, 100, 50));
        Edge.says(29, "`int found(int property, int low, int high) throws IllegalArgumentException`: Returns how many "
                + "workflows have a property within a range, and a latest run that is RUNNING.");
        Tale.cancels(x, 5);
        Check.due("it is RUNNING still", 1, () -> x.found(0, 50, 50));
        x.decide(5, 1);
        Check.due("it is over", 0, () -> x.found(0, 50, 50));
        Tale.signals(x, 4, 0, 0);
        x.decide(4, 1);
        Check.due("its latest run is RUNNING", 1, () -> x.found(0, 40, 40));
        Flowkeeper y = Tale.started(5, CHILD, 0, 2);
        y.decide(0, 1);
        Check.due("both", 2, () -> y.found(0, 0, 0));
        Tale.cancels(y, 0);
        y.decide(0, 1);
        Check.due("one was cut, one is STOPPED", 0, () -> y.found(0, 0, 0));
    }

    /** What a call that takes a workflow says of it. */
    private static void workflow(int promise, Flowkeeper x, Edge.Asked call) {
        Edge.says(promise, "- `workflow`: a workflow");
        Edge.allows("workflow", 0, x.workflows() - 1, call);
        Edge.says(promise, "Throws `IndexOutOfBoundsException` if there is no such workflow");
        Edge.outside("workflow", 0, x.workflows() - 1, call);
    }

    private static void isDue() {
        Flowkeeper x = Tale.started(5, SIDE, 2, 0, ACT, 0, 0, TIMER, 1, 0, CHILD, 1, 0);
        workflow(30, x, x::isDue);
        Edge.says(30, "Returns whether it has.");
        Check.holds("STARTED", () -> Check.truth(x.isDue(0)));
        Tale.decides(x, 0, 2);
        Check.due("nothing", 0, () -> Check.truth(x.isDue(0)));
        x.take(0, 0);
        Check.due("a try that has begun is nothing", 0, () -> Check.truth(x.isDue(0)));
        x.end(0, 1);
        Check.holds("DONE", () -> Check.truth(x.isDue(0)));
        Tale.decides(x, 0, 0);
        Check.due("nothing, though nothing was decided", 0, () -> Check.truth(x.isDue(0)));
        x.tick(1);
        Check.holds("FIRED", () -> Check.truth(x.isDue(0)));
        Tale.decides(x, 0, 1);
        Tale.version(x, 1, SET, 1, 0);
        Check.holds("STARTED of the child", () -> Check.truth(x.isDue(1)));
        x.decide(1, 1);
        Check.due("one that is over", 0, () -> Check.truth(x.isDue(1)));
        Check.holds("CHILD_OVER", () -> Check.truth(x.isDue(0)));
        Edge.says(30, "`boolean isDue(int workflow) throws IndexOutOfBoundsException`: Tells whether something has happened "
                + "to the latest run of a workflow that is RUNNING, behind its latest DECIDED.");
        // Something has happened to one that is STOPPED then; and to a run behind AGAIN.
        Flowkeeper y = Tale.started(5, CHILD, 0, 2);
        y.decide(0, 1);
        Check.holds("STARTED of the child", () -> Check.truth(y.isDue(1)));
        Tale.cancels(y, 0);
        y.decide(0, 1);
        Check.due("it is STOPPED", 0, () -> Check.truth(y.isDue(1)));
        Flowkeeper z = Tale.started(5, AGAIN, 0, 0);
        z.decide(0, 1);
        Check.holds("STARTED of the second run", () -> Check.truth(z.isDue(0)));
        // One that fails by itself is over, though the signals behind were never taken.
        Flowkeeper v = Tale.started(5, WAIT, 0, 0);
        Edge.fill(v, 0, 1, 78);
        Check.holds("a full history", () -> Check.truth(v.isDue(0)));
        v.decide(0, 1);
        Check.due("it is over", 0, () -> Check.truth(v.isDue(0)));
    }

    private static void register() {
        Flowkeeper x = Tale.started(5, ADD, 1, 0, WAIT, 0, 0, AGAIN, 0, 0);
        workflow(31, x, x::register);
        Edge.says(31, "Returns the register; 0 if nothing was decided in it.");
        Check.due("nothing was decided", 0, () -> x.register(0));
        x.decide(0, 1);
        Check.due("behind the first decision", 6, () -> x.register(0));
        Tale.signals(x, 0, 0, 99);
        Check.due("not behind what has happened since", 6, () -> x.register(0));
        x.decide(0, 1);
        Check.due("nothing was decided in the second run", 0, () -> x.register(0));
        x.decide(0, 1);
        Check.due("in that", 100, () -> x.register(0));
        Flowkeeper y = Tale.started(5, CHILD, 0, 2);
        y.decide(0, 1);
        y.decide(1, 1);
        Tale.cancels(y, 0);
        y.decide(0, 1);
        Check.due("of one that was CANCELLED", 5, () -> y.register(0));
        Check.due("of one that was STOPPED", 5, () -> y.register(1));
    }

    private static void place() {
        int[] sets = Edge.times(8, SET, 0, 0);
        Flowkeeper x = Tale.started(5, Edge.join(Edge.steps(WAIT, 0, 0), sets, Edge.steps(SIDE, 2, 0, ACT, 0, 0,
                WAIT, 1, 0)));
        workflow(32, x, x::place);
        Edge.says(32, "Returns the step at which it waits (SIDE for those behind it); NONE if nothing was decided in it, or "
                + "it fails, is cut, is over or STOPPED.");
        Check.due("nothing was decided", NONE, () -> x.place(0));
        x.decide(0, 1);
        Check.due("the first step", 0, () -> x.place(0));
        Tale.signals(x, 0, 0, 0);
        Check.due("behind the latest decision", 0, () -> x.place(0));
        x.decide(0, 1);
        Check.due("SIDE", 9, () -> x.place(0));
        Tale.does(x, 0, 100, 0);
        x.decide(0, 1);
        Check.due("SIDE still", 9, () -> x.place(0));
        Tale.signals(x, 0, 1, 0);
        x.decide(0, 1);
        Check.due("it is over", NONE, () -> x.place(0));
        Flowkeeper last = Tale.started(5, Edge.join(sets, Edge.times(3, SET, 0, 0), Edge.steps(WAIT, 0, 0)));
        last.decide(0, 1);
        Check.due("the twelfth step", 11, () -> last.place(0));
        Flowkeeper fails = Tale.started(5, UNDO, 0, 0, FAIL, 1, 0);
        fails.decide(0, 1);
        Check.due("it fails", NONE, () -> fails.place(0));
        Flowkeeper cut = Tale.started(5, UNDO, 0, 0, CHILD, 0, 2);
        cut.decide(0, 1);
        cut.decide(1, 1);
        Check.due("the child waits", 1, () -> cut.place(1));
        Tale.cancels(cut, 0);
        Check.due("it is not cut yet", 1, () -> cut.place(0));
        cut.decide(0, 1);
        Check.due("it is cut", NONE, () -> cut.place(0));
        Check.due("the child waits still", 1, () -> cut.place(1));
        Tale.does(cut, 0, 100, 0);
        cut.decide(0, 1);
        Check.due("the child is STOPPED", NONE, () -> cut.place(1));
    }

    private static void registerAnew() {
        workflowAndVersion(33, true);
        Edge.says(33, "Returns the register; MISMATCH times 1000 if something differs (for one that FAILED with 8 because "
                + "its history would have been too long, what the program would decide is held against OVER alone); 0 if "
                + "nothing was decided in it.");
        Flowkeeper x = Tale.started(5, ADD, 1, 0, WAIT, 0, 0);
        Tale.version(x, 0, ADD, 2, 0, WAIT, 0, 0);
        Tale.version(x, 0, ACT, 0, 0);
        for (int version = 1; version <= 3; version++) {
            int n = version;
            Check.due("nothing was decided", 0, () -> x.registerAnew(0, n));
        }
        x.decide(0, 1);
        String before = Look.at(x);
        Check.due("as register()", 6, () -> x.registerAnew(0, 1));
        Check.due("with another version", 7, () -> x.registerAnew(0, 2));
        Check.due("with one that differs", -2000, () -> x.registerAnew(0, 3));
        Check.same("nothing has changed", before, Look.at(x));
        Tale.signals(x, 0, 0, 40);
        Check.due("behind the latest decision", 6, () -> x.registerAnew(0, 1));
        x.decide(0, 1);
        Check.due("of one that has ENDED", 40, () -> x.registerAnew(0, 1));
        // One that FAILED with 8: its program would decide something else.
        Flowkeeper y = Tale.started(5, SET, 9, 0, WAIT, 0, 0);
        Tale.version(y, 0, SET, 8, 0, FAIL, 8, 0);
        Tale.version(y, 0, SET, 8, 0, FAIL, 7, 0);
        Tale.version(y, 0, TELL, 0, 1, FAIL, 8, 0);
        Edge.fill(y, 0, 1, 78);
        y.decide(0, 1);
        Check.due("it decides nothing", -2000, () -> y.registerAnew(0, 1));
        Check.due("it decides OVER alone, with 8", 8, () -> y.registerAnew(0, 2));
        Check.due("it decides OVER alone, with 7", -2000, () -> y.registerAnew(0, 3));
        Check.due("it decides more", -2000, () -> y.registerAnew(0, 4));
        Check.due("register() stays", 0, () -> y.register(0));
        // One that FAILED with 8 as its program tells is like any other.
        Flowkeeper z = Tale.started(5, SET, 9, 0, FAIL, 8, 0);
        z.decide(0, 1);
        Check.due("it FAILED with 8", 9, () -> z.registerAnew(0, 1));
        // A run behind AGAIN: the latest one is played.
        Flowkeeper again = Tale.started(5, ADD, 1, 0, AGAIN, 0, 0);
        again.decide(0, 1);
        Check.due("nothing was decided in it", 0, () -> again.registerAnew(0, 1));
        again.decide(0, 1);
        Check.due("nothing was decided in it", 0, () -> again.registerAnew(0, 1));
        for (int run = 3; run <= 9; run++) {
            again.decide(0, 1);
        }
        Check.due("the ninth one has FAILED", 14, () -> again.registerAnew(0, 1));
        Check.due("as register()", 14, () -> again.register(0));
        // AGAIN fails with 7 in the ninth run, and in no other: there it is the same as FAIL.
        for (int runs = 8; runs <= 9; runs++) {
            Flowkeeper v = Tale.started(5, AGAIN, 0, 0);
            Tale.version(v, 0, FAIL, 7, 0);
            for (int run = 1; run < runs; run++) {
                v.decide(0, 1);
            }
            Check.due("decide", 1, () -> v.decide(0, 2));
            Check.due("with FAIL", 5, () -> v.registerAnew(0, 2));
            Check.due("with AGAIN in the run " + runs, runs == 9 ? 5 : -2000, () -> v.registerAnew(0, 1));
        }
    }
}
