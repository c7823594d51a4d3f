/** Promises 6, 7 and 20 to 33: start, signal, and all that is asked. */
final class AsksTest implements Words {
    private static final int[] FAR = {-1, 1, Integer.MIN_VALUE, Integer.MAX_VALUE};

    public static void main(String[] args) {
        starts();
        signals();
        noSuchWorkflow();
        runsAndEvents();
        due();
        places();
        registers();
        properties();
        found();
        Check.done("AsksTest");
    }

    private static void starts() {
        Flowkeeper x = new Flowkeeper();
        for (int type : new int[] {-1, 3, Integer.MIN_VALUE, Integer.MAX_VALUE}) {
            Check.outside("start: type", () -> x.start(type, 0, 0));
            Check.outside("start: tenant", () -> x.start(0, type, 0));
            Check.outside("start: type ahead of value", () -> x.start(type, 0, 100));
            Check.outside("start: tenant ahead of value", () -> x.start(0, type, 100));
        }
        for (int value : new int[] {-100, 100, Integer.MIN_VALUE, Integer.MAX_VALUE}) {
            Check.argument("start: value", () -> x.start(0, 0, value));
        }
        Check.due("workflows", 0, x::workflows);
        for (int i = 0; i < 10; i++) {
            int n = i;
            int value = i % 2 == 0 ? -99 : 99;
            Check.due("start", n, () -> x.start(n % 3, (n + 1) % 3, value));
            Check.due("workflows", n + 1, x::workflows);
            Tale.all(x, i, "STARTED " + value + " 0");
            Tale.stands(x, i, RUNNING, 0, NONE);
            Check.due("parent", NONE, () -> x.parent(n));
            Check.due("runs", 1, () -> x.runs(n));
        }
        Check.state("an eleventh", () -> x.start(0, 0, 0));
        Check.argument("value ahead of that", () -> x.start(0, 0, 100));
        Check.outside("type ahead of that", () -> x.start(3, 0, 0));
        Check.due("workflows", 10, x::workflows);
    }

    private static void signals() {
        Flowkeeper x = Tale.started(0, WAIT, 0, 0);
        for (int w : FAR) {
            Check.outside("signal: workflow", () -> x.signal(w, 0, 0));
            Check.outside("signal: workflow ahead of which", () -> x.signal(w, 3, 100));
        }
        for (int which : new int[] {-1, 3, Integer.MIN_VALUE, Integer.MAX_VALUE}) {
            Check.argument("signal: which", () -> x.signal(0, which, 0));
        }
        for (int value : new int[] {-100, 100, Integer.MIN_VALUE, Integer.MAX_VALUE}) {
            Check.argument("signal: value", () -> x.signal(0, 0, value));
        }
        Tale.signals(x, 0, 2, -99);
        Tale.signals(x, 0, 0, 99);
        Tale.all(x, 0, "STARTED 0 0, SIGNAL 2 -99, SIGNAL 0 99");
        Tale.decides(x, 0, 1);
        Check.due("signal to one that is over", 0, () -> Check.truth(x.signal(0, 0, 0)));
        Check.argument("which, all the same", () -> x.signal(0, 3, 0));
        Check.due("events", 5, () -> x.events(0, 1));
    }

    private static void noSuchWorkflow() {
        Flowkeeper x = Tale.started(0, WAIT, 0, 0);
        for (int w : FAR) {
            Check.outside("parent", () -> x.parent(w));
            Check.outside("runs", () -> x.runs(w));
            Check.outside("state", () -> x.state(w, 1));
            Check.outside("events", () -> x.events(w, 1));
            Check.outside("eventKind", () -> x.eventKind(w, 1, 0));
            Check.outside("eventNumber", () -> x.eventNumber(w, 1, 0, true));
            Check.outside("property", () -> x.property(w, 0));
            Check.outside("property: workflow ahead of property", () -> x.property(w, 2));
            Check.outside("isDue", () -> x.isDue(w));
            Check.outside("register", () -> x.register(w));
            Check.outside("place", () -> x.place(w));
        }
        for (int run : new int[] {-1, 0, 2, Integer.MIN_VALUE, Integer.MAX_VALUE}) {
            Check.outside("state", () -> x.state(0, run));
            Check.outside("events", () -> x.events(0, run));
            Check.outside("eventKind", () -> x.eventKind(0, run, 0));
            Check.outside("eventNumber", () -> x.eventNumber(0, run, 0, false));
        }
        for (int event : FAR) {
            Check.outside("eventKind", () -> x.eventKind(0, 1, event));
            Check.outside("eventNumber", () -> x.eventNumber(0, 1, event, true));
        }
        Check.outside("nothing of a new object", () -> new Flowkeeper().parent(0));
    }

    private static void runsAndEvents() {
        Flowkeeper x = Tale.started(-5, WAIT, 1, 0, AGAIN, 0, 0);
        Tale.signals(x, 0, 1, 66);
        Tale.decides(x, 0, 1);
        Check.due("runs", 2, () -> x.runs(0));
        Check.due("state", AGAIN, () -> x.state(0, 1));
        Check.due("state", RUNNING, () -> x.state(0, 2));
        Check.outside("state of a third run", () -> x.state(0, 3));
        Check.due("events", 4, () -> x.events(0, 1));
        Check.due("events", 1, () -> x.events(0, 2));
        Check.due("kind", Flowkeeper.STARTED, () -> x.eventKind(0, 1, 0));
        Check.due("first number", -5, () -> x.eventNumber(0, 1, 0, true));
        Check.due("second number", 0, () -> x.eventNumber(0, 1, 0, false));
        Check.due("kind", Flowkeeper.SIGNAL, () -> x.eventKind(0, 1, 1));
        Check.due("first number", 1, () -> x.eventNumber(0, 1, 1, true));
        Check.due("second number", 66, () -> x.eventNumber(0, 1, 1, false));
        Check.due("kind", Flowkeeper.DECIDED, () -> x.eventKind(0, 1, 2));
        Check.due("kind", Flowkeeper.OVER, () -> x.eventKind(0, 1, 3));
        Check.due("first number", AGAIN, () -> x.eventNumber(0, 1, 3, true));
        Check.due("second number", 66, () -> x.eventNumber(0, 1, 3, false));
        Check.outside("a fifth event", () -> x.eventKind(0, 1, 4));
        Check.outside("a second event of the run 2", () -> x.eventNumber(0, 2, 1, false));
        Check.due("first number", 66, () -> x.eventNumber(0, 2, 0, true));
    }

    private static void due() {
        Flowkeeper x = Tale.started(0, ACT, 0, 0, TIMER, 2, 0);
        Check.holds("STARTED is something", () -> Check.truth(x.isDue(0)));
        x.decide(0, 1);
        Check.due("nothing behind DECIDED", 0, () -> Check.truth(x.isDue(0)));
        Tale.signals(x, 0, 0, 0);
        Check.holds("a signal is, even one for which it does not wait", () -> Check.truth(x.isDue(0)));
        x.decide(0, 1);
        Check.due("nothing behind DECIDED", 0, () -> Check.truth(x.isDue(0)));
        Tale.does(x, 0, 100, 0);
        Check.holds("DONE is", () -> Check.truth(x.isDue(0)));
        x.decide(0, 1);
        x.tick(2);
        Check.holds("FIRED is", () -> Check.truth(x.isDue(0)));
        x.decide(0, 1);
        Check.due("one that is over is not", 0, () -> Check.truth(x.isDue(0)));
    }

    private static void places() {
        Flowkeeper x = Tale.started(0, SET, 1, 0, ACT, 0, 0, SET, 1, 0, SIDE, 2, 0, ACT, 0, 0, WAIT, 0, 0, UNDO, 0, 0,
                FAIL, 1, 0);
        Check.due("nothing decided", NONE, () -> x.place(0));
        x.decide(0, 1);
        Check.due("ACT", 1, () -> x.place(0));
        Tale.does(x, 0, 100, 0);
        Check.due("as it was behind the latest decision", 1, () -> x.place(0));
        x.decide(0, 1);
        Check.due("SIDE", 3, () -> x.place(0));
        Tale.does(x, 0, 101, 0);
        x.decide(0, 1);
        Check.due("SIDE", 3, () -> x.place(0));
        Tale.signals(x, 0, 0, 0);
        x.decide(0, 1);
        Check.due("it fails", NONE, () -> x.place(0));
        Tale.does(x, 0, 102, 0);
        x.decide(0, 1);
        Check.due("it is over", NONE, () -> x.place(0));
        Flowkeeper y = Tale.started(0, UNDO, 0, 0, WAIT, 0, 0);
        y.decide(0, 1);
        Tale.cancels(y, 0);
        Check.due("not cut yet", 1, () -> y.place(0));
        y.decide(0, 1);
        Check.due("it is cut", NONE, () -> y.place(0));
    }

    private static void registers() {
        Flowkeeper x = Tale.started(50, ADD, 1, 0, WAIT, 0, 0, ADD, 99, 0, ADD, 99, 0, AGAIN, 0, 0);
        Check.due("nothing decided", 0, () -> x.register(0));
        x.decide(0, 1);
        Check.due("register", 51, () -> x.register(0));
        Tale.signals(x, 0, 0, 7);
        Check.due("as it was behind the latest decision", 51, () -> x.register(0));
        x.decide(0, 1);
        Check.due("nothing decided in the run 2", 0, () -> x.register(0));
        Tale.all(x, 0, "STARTED 205 0");
        x.decide(0, 1);
        Check.due("register", 206, () -> x.register(0));
    }

    private static void properties() {
        Flowkeeper x = Tale.started(50, TELL, 1, -99, WAIT, 0, 0, TELL, 0, 99);
        for (int property : new int[] {-1, 2, Integer.MIN_VALUE, Integer.MAX_VALUE}) {
            Check.argument("property", () -> x.property(0, property));
            Check.argument("found", () -> x.found(property, 0, 0));
        }
        x.decide(0, 1);
        Check.due("property 0", 0, () -> x.property(0, 0));
        Check.due("property 1", -99, () -> x.property(0, 1));
    }

    private static void found() {
        Flowkeeper x = new Flowkeeper();
        Tale.version(x, 0, TELL, 0, 100, WAIT, 0, 0);
        Check.due("none yet", 0, () -> x.found(0, Integer.MIN_VALUE, Integer.MAX_VALUE));
        for (int i = 0; i < 4; i++) {
            x.start(0, 0, 10 * i);
        }
        Check.due("0 at first", 4, () -> x.found(0, 0, 0));
        for (int i = 0; i < 4; i++) {
            x.decide(i, 1);
        }
        Check.due("10 to 20", 2, () -> x.found(0, 10, 20));
        Check.due("11 to 20", 1, () -> x.found(0, 11, 20));
        Check.due("10 to 19", 1, () -> x.found(0, 10, 19));
        Check.due("10 to 10", 1, () -> x.found(0, 10, 10));
        Check.due("all", 4, () -> x.found(0, Integer.MIN_VALUE, Integer.MAX_VALUE));
        Check.due("the other property", 4, () -> x.found(1, 0, 0));
        Check.due("the other property", 0, () -> x.found(1, 1, 999));
        Check.argument("low is greater than high", () -> x.found(0, 11, 10));
        Check.argument("low is greater than high", () -> x.found(1, Integer.MAX_VALUE, Integer.MIN_VALUE));
        Tale.signals(x, 1, 0, 0);
        x.decide(1, 1);
        Check.due("one that is over is not found", 1, () -> x.found(0, 10, 20));
        Check.due("its property stays", 10, () -> x.property(1, 0));
    }
}
