/** The sentences under 'Workflows', and of the promises 6 to 8 and 21 to 27. */
final class WorkflowEdges implements Words {
    private WorkflowEdges() {
    }

    static void all() {
        numbers();
        parts();
        history();
        states();
        happenings();
        decisions();
        numbersOfThings();
        start();
        signal();
        cancel();
        countAndParent();
        runs();
        state();
        events();
        eventKind();
        eventNumber();
    }

    private static void numbers() {
        Edge.term("Workflows are numbered from 0, at most 10.");
        Flowkeeper x = new Flowkeeper();
        Tale.version(x, 0, CHILD, 1, 0);
        Check.outside("of none there is no first one", () -> x.runs(0));
        for (int i = 0; i < 9; i++) {
            int n = i;
            Check.due("start", n, () -> x.start(0, 0, 0));
            Check.outside("the next one", () -> x.runs(n + 1));
        }
        Tale.decides(x, 0, 1);
        Check.due("a child is the tenth", 0, () -> x.parent(9));
        Check.state("an eleventh one", () -> x.start(0, 0, 0));
        Tale.decides(x, 1, 1);
        Check.due("a child is no eleventh one", 10, x::workflows);
        Check.outside("there is none", () -> x.runs(10));
    }

    private static void parts() {
        Edge.term("A workflow has a type, a tenant (0 to 2), runs, numbered from 1, at most 9, two properties, 0 at first, "
                + "and perhaps a parent.");
        Flowkeeper x = new Flowkeeper();
        Edge.allows("tenant", 0, 2, tenant -> x.start(0, tenant, 0));
        Edge.outside("tenant", 0, 2, tenant -> x.start(0, tenant, 0));
        Edge.allows("property", 0, 1, p -> Check.due("property at first", 0, () -> x.property(0, p)));
        Edge.argument("property", 0, 1, p -> x.property(0, p));
        Check.due("no parent", NONE, () -> x.parent(0));
        Tale.version(x, 0, AGAIN, 0, 0);
        for (int run = 1; run <= 9; run++) {
            int n = run;
            Check.due("runs", n, () -> x.runs(0));
            Check.due("a run that has begun", RUNNING, () -> x.state(0, n));
            Check.outside("the next one", () -> x.state(0, n + 1));
            Check.outside("no run 0", () -> x.state(0, 0));
            Tale.decides(x, 0, 1);
        }
        Check.due("no tenth run", 9, () -> x.runs(0));
        Check.due("the ninth one is over", FAILED, () -> x.state(0, 9));
    }

    private static void history() {
        Edge.term("A run has a register, a list of what is to be undone, and a history of events, at most 80.");
        // The most that it can have: 78 events, and two that are decided.
        Flowkeeper x = Tale.started(7, WAIT, 0, 0);
        Edge.fill(x, 0, 1, 78);
        Tale.decides(x, 0, 1);
        Check.due("events", 80, () -> x.events(0, 1));
        Check.due("the last one", Flowkeeper.OVER, () -> x.eventKind(0, 1, 79));
        Check.outside("one more", () -> x.eventKind(0, 1, 80));
        // The least: it begins with one.
        x.start(0, 0, 3);
        Check.due("events", 1, () -> x.events(1, 1));
        Check.due("the first one", Flowkeeper.STARTED, () -> x.eventKind(1, 1, 0));
    }

    private static void states() {
        Edge.term("It is RUNNING, ENDED, FAILED, CANCELLED, AGAIN (there is another run then) or STOPPED.");
        Flowkeeper x = new Flowkeeper();
        Tale.version(x, 0, SIDE, 2, 0, CHILD, 0, 2, WAIT, 0, 0, SKIP, 1, 2, SKIP, 2, 2, AGAIN, 0, 0, END, 0, 0,
                FAIL, 5, 0);
        for (int i = 0; i < 3; i++) {
            x.start(0, 0, 0);
        }
        Check.due("at first", RUNNING, () -> x.state(0, 1));
        Tale.version(x, 0, WAIT, 0, 0, SKIP, 1, 3, SKIP, 2, 1, AGAIN, 0, 0, END, 0, 0, FAIL, 5, 0);
        for (int i = 0; i < 3; i++) {
            Tale.signals(x, i, 0, i);
            x.decide(i, 2);
        }
        Check.due("register 0", FAILED, () -> x.state(0, 1));
        Check.due("register 1", ENDED, () -> x.state(1, 1));
        Check.due("register 2", AGAIN, () -> x.state(2, 1));
        Check.due("there is another run then", RUNNING, () -> x.state(2, 2));
        Check.due("it goes on in that", 2, () -> x.runs(2));
        Check.due("of one that is over there is none", 1, () -> x.runs(1));
        x.start(0, 0, 0);
        x.decide(3, 1);
        Tale.cancels(x, 3);
        x.decide(3, 1);
        Check.due("of one that is cut", CANCELLED, () -> x.state(3, 1));
        Check.due("of its child", STOPPED, () -> x.state(4, 1));
        Check.due("of one that is cut there is no other run", 1, () -> x.runs(3));
    }

    private static void happenings() {
        Edge.term("- what happens: STARTED (the register with which it begins, 0);");
        for (int register : new int[] {-99, 0, 99}) {
            Flowkeeper x = Tale.started(register, END, 0, 0);
            Tale.all(x, 0, "STARTED " + register + " 0");
        }
        Edge.term("DONE and LOST (the number of the activity, its result; LOST: 0);");
        Flowkeeper y = Tale.started(5, SIDE, 3, 0, ACT, 0, 0, ACT, 0, 0, ACT, 0, 1);
        y.decide(0, 1);
        Tale.does(y, 0, 100, -99);
        Tale.does(y, 0, 101, 99);
        Tale.loses(y, 1, 102);
        Tale.behind(y, 0, 5, "DONE 0 -99, DONE 1 99, LOST 2 0");
        Edge.term("FIRED (the number of the timer, 0);");
        Flowkeeper z = Tale.started(5, SIDE, 2, 0, TIMER, 2, 0, TIMER, 1, 0);
        z.decide(0, 1);
        z.tick(2);
        Tale.behind(z, 0, 4, "FIRED 1 0, FIRED 0 0");
        Edge.term("SIGNAL (which, its value);");
        Tale.signals(z, 0, 0, -99);
        Tale.signals(z, 0, 2, 99);
        Tale.behind(z, 0, 6, "SIGNAL 0 -99, SIGNAL 2 99");
        Edge.term("CHILD_OVER (the number of the child in this run, its result);");
        Flowkeeper v = Tale.started(5, SIDE, 2, 0, CHILD, 1, 0, CHILD, 1, 0);
        Tale.version(v, 1, SET, -99, 0);
        Tale.version(v, 1, FAIL, 9, 0);
        v.decide(0, 1);
        v.decide(2, 1);
        v.decide(1, 2);
        Tale.behind(v, 0, 4, "CHILD_OVER 1 -99, CHILD_OVER 0 -1");
        Edge.term("CANCEL (0, 0).");
        Tale.cancels(v, 0);
        Tale.behind(v, 0, 6, "CANCEL 0 0");
    }

    private static void decisions() {
        Edge.term("- what is decided: DECIDED (the version, 0), and behind it what the program does: ACTIVITY (its kind, "
                + "its queue), ACTIVITY_OFF (its number, 0), TIMER_SET (the ticks, 0), TIMER_OFF (the number of the timer, "
                + "0), CHILD_MADE (its type, what happens to it), MARKED (the mark, 0), TOLD (which property, its value), "
                + "UNDOING (the kind, the queue), and at last, if it is over, OVER (its state, its result).");
        int[] steps = Edge.steps(UNDO, 5, 1, MARK, 3, 1, TELL, 1, -99, SIDE, 3, 0, ACT, 4, 1, TIMER, 50, 0,
                CHILD, 2, 1);
        Flowkeeper x = Tale.started(5, SET, 1, 0);
        Tale.version(x, 0, SET, 1, 0);
        Tale.version(x, 0, SET, 1, 0);
        Tale.version(x, 0, steps);
        Check.due("events that are decided", 5, () -> x.decide(0, 4));
        Tale.behind(x, 0, 1, "DECIDED 4 0, MARKED 3 0, TOLD 1 -99, ACTIVITY 4 1, TIMER_SET 50 0, CHILD_MADE 2 1");
        Tale.cancels(x, 0);
        Check.due("events that are decided", 3, () -> x.decide(0, 4));
        Tale.behind(x, 0, 8, "DECIDED 4 0, ACTIVITY_OFF 0 0, TIMER_OFF 0 0, UNDOING 5 1");
        Tale.does(x, 1, 101, 0);
        Check.due("events that are decided", 1, () -> x.decide(0, 4));
        Tale.behind(x, 0, 13, "DECIDED 4 0, OVER 23 0");
    }

    private static void numbersOfThings() {
        Edge.term("Activities, timers and children that are decided in a run are numbered from 0, each kind of thing by "
                + "itself;");
        Flowkeeper x = Tale.started(5, SIDE, 3, 0, ACT, 0, 0, TIMER, 1, 0, CHILD, 1, 0, SIDE, 3, 0, CHILD, 1, 0,
                ACT, 0, 0, TIMER, 1, 0, AGAIN, 0, 0);
        Tale.version(x, 1, SET, 8, 0);
        int child = 1;
        for (int run = 1; run <= 2; run++) {
            for (int number = 0; number <= 1; number++) {
                Tale.decides(x, 0, 3);
                int from = x.events(0, run);
                Tale.does(x, 0, 100 * run + number, 7);
                x.tick(1);
                x.decide(child++, 1);
                Tale.behind(x, 0, from, "DONE " + number + " 7, FIRED " + number + " 0, CHILD_OVER " + number + " 8");
            }
            Tale.decides(x, 0, 1);
        }
        Edge.term("UNDOING is an activity, too;");
        Flowkeeper y = Tale.started(5, UNDO, 1, 1, ACT, 0, 0, FAIL, 1, 0);
        y.decide(0, 1);
        Tale.does(y, 0, 100, 0);
        y.decide(0, 1);
        Tale.does(y, 1, 101, 0);
        Tale.behind(y, 0, 6, "DONE 1 0");
        Edge.term("a WAIT with ticks sets a timer.");
        Flowkeeper z = Tale.started(5, SIDE, 3, 0, WAIT, 0, 4, WAIT, 0, 0, TIMER, 3, 0);
        Tale.decides(z, 0, 2);
        z.tick(4);
        Tale.behind(z, 0, 4, "FIRED 1 0, FIRED 0 0");
    }

    private static void start() {
        Flowkeeper x = new Flowkeeper();
        Edge.says(6, "- `type`: 0 to 2");
        Edge.allows("type", 0, 2, type -> x.start(type, 0, 0));
        Edge.says(6, "- `tenant`: 0 to 2");
        Edge.allows("tenant", 0, 2, tenant -> x.start(0, tenant, 0));
        Edge.says(6, "- `value`: -99 to 99, the register with which it begins");
        Check.due("the least", 6, () -> x.start(0, 0, -99));
        Check.due("the greatest", 7, () -> x.start(0, 0, 99));
        Tale.all(x, 6, "STARTED -99 0");
        Tale.all(x, 7, "STARTED 99 0");
        Edge.says(6, "Throws `IndexOutOfBoundsException` if there is no such type or tenant");
        Edge.outside("type", 0, 2, type -> x.start(type, 0, 0));
        Edge.outside("tenant", 0, 2, tenant -> x.start(0, tenant, 0));
        Edge.outside("type, and a value out of range", 0, 2, type -> x.start(type, 0, 100));
        Edge.outside("tenant, and a value out of range", 0, 2, tenant -> x.start(0, tenant, -100));
        Edge.says(6, "Throws `IllegalArgumentException` if value is out of range");
        Edge.argument("value", -99, 99, value -> x.start(0, 0, value));
        Check.due("none of them was started", 8, x::workflows);
        Edge.says(6, "Returns its number.");
        Check.due("the ninth one", 8, () -> x.start(0, 0, 0));
        Check.due("the tenth one", 9, () -> x.start(0, 0, 0));
        Edge.says(6, "Throws `IllegalStateException` if there are 10");
        Check.state("an eleventh one", () -> x.start(0, 0, 0));
        Check.argument("an eleventh one out of range", () -> x.start(0, 0, 100));
        Check.outside("an eleventh one of no type", () -> x.start(3, 0, 0));
        Check.due("there are ten", 10, x::workflows);
    }

    /** The numbers of workflows that a call takes, with 0 and 1 there. */
    private static void workflow(int promise, Flowkeeper x, Edge.Asked call) {
        Edge.says(promise, "- `workflow`: a workflow");
        Edge.allows("workflow", 0, x.workflows() - 1, call);
        String no = "Throws `IndexOutOfBoundsException` if there is no such workflow";
        Edge.says(promise, promise == 24 || promise == 25 ? no + " or run"
                : promise == 26 || promise == 27 ? no + ", run or event" : no);
        Edge.outside("workflow", 0, x.workflows() - 1, call);
    }

    private static void signal() {
        Flowkeeper x = Tale.started(5, WAIT, 0, 0);
        x.start(0, 0, 0);
        workflow(7, x, w -> x.signal(w, 0, 0));
        Edge.outside("workflow, and a signal that is none", 0, 1, w -> x.signal(w, 3, 100));
        Edge.says(7, "- `which`: 0 to 2");
        Edge.allows("which", 0, 2, which -> x.signal(1, which, 0));
        Edge.says(7, "- `value`: -99 to 99");
        Edge.allows("value", -99, -98, value -> x.signal(1, 0, value));
        Edge.allows("value", 98, 99, value -> x.signal(1, 0, value));
        Edge.says(7, "Throws `IllegalArgumentException` if which or value is out of range");
        int before = x.events(1, 1);
        Edge.argument("which", 0, 2, which -> x.signal(1, which, 0));
        Edge.argument("value", -99, 99, value -> x.signal(1, 0, value));
        Check.due("none of them happened", before, () -> x.events(1, 1));
        Edge.says(7, "Returns whether it happens: the latest run is RUNNING, and its history can take it.");
        Edge.fill(x, 1, 1, 77);
        Check.holds("the 78th event", () -> Check.truth(x.signal(1, 1, 0)));
        Check.due("the 79th", 0, () -> Check.truth(x.signal(1, 1, 0)));
        Check.due("it is lost", 78, () -> x.events(1, 1));
        Tale.decides(x, 0, 1);
        Check.due("one that is over", 0, () -> Check.truth(x.signal(0, 0, 0)));
        Check.argument("one that is over, out of range", () -> x.signal(0, 0, 100));
        Flowkeeper y = Tale.started(5, AGAIN, 0, 0);
        y.decide(0, 1);
        Check.holds("one whose latest run is RUNNING", () -> Check.truth(y.signal(0, 0, 0)));
        Check.due("it happens to that run", 2, () -> y.events(0, 2));
        Check.due("and to no other", 3, () -> y.events(0, 1));
    }

    private static void cancel() {
        Flowkeeper x = Tale.started(5, WAIT, 0, 0);
        x.start(0, 0, 0);
        workflow(8, x, x::cancel);
        Edge.says(8, "Returns whether CANCEL happens: the latest run is RUNNING, it was not asked for in it, and its "
                + "history can take it.");
        Check.due("it was asked for", 0, () -> Check.truth(x.cancel(0)));
        Check.due("it is there once", 2, () -> x.events(0, 1));
        x.decide(0, 1);
        Check.due("it is over", 0, () -> Check.truth(x.cancel(0)));
        Check.due("nothing happens to it", 4, () -> x.events(0, 1));
        for (int events : new int[] {77, 78}) {
            Flowkeeper y = Tale.started(5, WAIT, 0, 0);
            Edge.fill(y, 0, 1, events);
            Check.due("with " + events + " events", 78 - events, () -> Check.truth(y.cancel(0)));
            Check.due("events", 78, () -> y.events(0, 1));
        }
        Flowkeeper z = Tale.started(5, GUARD, 2, 0, WAIT, 0, 0, AGAIN, 0, 0);
        Tale.decides(z, 0, 0);
        Tale.signals(z, 0, 0, 0);
        Tale.decides(z, 0, 1);
        Tale.cancels(z, 0);
        Check.due("once in this run", 0, () -> Check.truth(z.cancel(0)));
    }

    private static void countAndParent() {
        Edge.says(21, "`int workflows()`: Returns how many workflows there are.");
        Flowkeeper x = new Flowkeeper();
        Check.due("none", 0, x::workflows);
        Tale.version(x, 0, CHILD, 0, 0);
        for (int i = 0; i < 9; i++) {
            x.start(0, 0, 0);
        }
        Check.due("nine", 9, x::workflows);
        x.decide(8, 1);
        Check.due("with a child", 10, x::workflows);
        Tale.cancels(x, 8);
        x.decide(8, 1);
        Check.due("those that are over count", 10, x::workflows);
        workflow(22, x, x::parent);
        Edge.says(22, "Returns the parent; NONE if it has none.");
        Check.due("of the child", 8, () -> x.parent(9));
        Check.due("of the first one", NONE, () -> x.parent(0));
        Check.due("of the parent", NONE, () -> x.parent(8));
        Flowkeeper y = Tale.started(0, CHILD, 0, 0);
        y.decide(0, 1);
        Check.due("the parent may be the first one", 0, () -> y.parent(1));
    }

    private static void runs() {
        Flowkeeper x = Tale.started(5, AGAIN, 0, 0);
        x.start(0, 0, 0);
        workflow(23, x, x::runs);
        Edge.says(23, "Returns how many, with the one of now.");
        Check.due("one that has just begun", 1, () -> x.runs(0));
        for (int run = 2; run <= 9; run++) {
            int n = run;
            x.decide(0, 1);
            Check.due("runs", n, () -> x.runs(0));
        }
        x.decide(0, 1);
        Check.due("no more than nine", 9, () -> x.runs(0));
        Check.due("of the other one", 1, () -> x.runs(1));
    }

    /** A run that a call takes: the workflow 1 has three, the workflow 0 has one. */
    private static void run(int promise, Edge.Asked ofFirst, Edge.Asked ofSecond) {
        Edge.says(promise, "- `run`: a run of it, 1 for the first one");
        Edge.allows("run of the second workflow", 1, 3, ofSecond);
        Edge.allows("run of the first workflow", 1, 1, ofFirst);
        Edge.outside("run of the second workflow", 1, 3, ofSecond);
        Edge.outside("run of the first workflow", 1, 1, ofFirst);
    }

    private static Flowkeeper ofRuns() {
        Flowkeeper x = Tale.started(5, AGAIN, 0, 0);
        x.start(0, 0, 8);
        x.decide(1, 1);
        x.decide(1, 1);
        return x;
    }

    private static void state() {
        Flowkeeper x = ofRuns();
        workflow(24, x, w -> x.state(w, 1));
        run(24, run -> x.state(0, run), run -> x.state(1, run));
        Edge.outside("run", 1, 1, run -> x.state(2, run));
        Edge.says(24, "Returns RUNNING to STOPPED, or AGAIN.");
        Check.due("the first run", AGAIN, () -> x.state(1, 1));
        Check.due("the second run", AGAIN, () -> x.state(1, 2));
        Check.due("the third run", RUNNING, () -> x.state(1, 3));
        Flowkeeper y = Tale.started(5, CHILD, 0, 2);
        y.decide(0, 1);
        Tale.cancels(y, 0);
        y.decide(0, 1);
        Check.due("its parent has ended", STOPPED, () -> y.state(1, 1));
    }

    private static void events() {
        Flowkeeper x = ofRuns();
        workflow(25, x, w -> x.events(w, 1));
        run(25, run -> x.events(0, run), run -> x.events(1, run));
        Edge.says(25, "Returns how many.");
        Check.due("of a run that has just begun", 1, () -> x.events(1, 3));
        Check.due("of one that is AGAIN", 3, () -> x.events(1, 2));
        Edge.fill(x, 1, 0, 78);
        x.decide(1, 1);
        Check.due("of a full one", 80, () -> x.events(1, 3));
    }

    private static void eventKind() {
        Flowkeeper x = ofRuns();
        workflow(26, x, w -> x.eventKind(w, 1, 0));
        run(26, run -> x.eventKind(0, run, 0), run -> x.eventKind(1, run, 0));
        Edge.says(26, "- `place`: 0 for the first one");
        Edge.allows("place", 0, 2, place -> x.eventKind(1, 2, place));
        Edge.allows("place", 0, 0, place -> x.eventKind(1, 3, place));
        Edge.outside("place", 0, 2, place -> x.eventKind(1, 2, place));
        Edge.outside("place", 0, 0, place -> x.eventKind(1, 3, place));
        Edge.says(26, "Returns its kind.");
        Check.due("the first one", Flowkeeper.STARTED, () -> x.eventKind(1, 2, 0));
        Check.due("the second one", Flowkeeper.DECIDED, () -> x.eventKind(1, 2, 1));
        Check.due("the last one", Flowkeeper.OVER, () -> x.eventKind(1, 2, 2));
    }

    private static void eventNumber() {
        Flowkeeper x = ofRuns();
        workflow(27, x, w -> x.eventNumber(w, 1, 0, true));
        Edge.outside("workflow", 0, 1, w -> x.eventNumber(w, 1, 0, false));
        run(27, run -> x.eventNumber(0, run, 0, false), run -> x.eventNumber(1, run, 0, true));
        Edge.says(27, "- `place`: 0 for the first one");
        Edge.allows("place", 0, 2, place -> x.eventNumber(1, 2, place, false));
        Edge.outside("place", 0, 2, place -> x.eventNumber(1, 2, place, true));
        Edge.outside("place", 0, 2, place -> x.eventNumber(1, 2, place, false));
        Edge.says(27, "- `isFirst`: whether the first one of its two numbers; otherwise the second one");
        Check.due("the first number of the last event", AGAIN, () -> x.eventNumber(1, 2, 2, true));
        Check.due("the second number of the last event", 8, () -> x.eventNumber(1, 2, 2, false));
        Edge.says(27, "Returns the number.");
        Check.due("the register with which it began", 8, () -> x.eventNumber(1, 1, 0, true));
        Check.due("0", 0, () -> x.eventNumber(1, 1, 0, false));
        Check.due("the version", 1, () -> x.eventNumber(1, 1, 1, true));
    }
}
