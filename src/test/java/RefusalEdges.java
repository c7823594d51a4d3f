import java.util.ArrayList;
import java.util.List;
import java.util.function.Consumer;
import java.util.function.Supplier;

/** The sentences under 'Exceptions': which exception it is, and that a call that is refused changes nothing. */
final class RefusalEdges implements Words {
    private static final Class<? extends RuntimeException> INDEX = IndexOutOfBoundsException.class;
    private static final Class<? extends RuntimeException> ARGUMENT = IllegalArgumentException.class;
    private static final Class<? extends RuntimeException> STATE = IllegalStateException.class;

    private record Refusal(String name, Class<? extends RuntimeException> by, Consumer<Flowkeeper> call) { }

    private RefusalEdges() {
    }

    static void all() {
        Edge.term("IndexOutOfBoundsException: there is no such type, version, step, workflow, run, event, queue, worker or "
                + "tenant.");
        refused(INDEX, RefusalEdges::busy, noSuch(8));
        refused(INDEX, Flowkeeper::new, noSuch(0));
        Edge.term("IllegalArgumentException: another argument is out of its range.");
        refused(ARGUMENT, RefusalEdges::busy, outOfRange());
        refused(ARGUMENT, Flowkeeper::new, outOfRangeAnywhere());
        Edge.term("IllegalStateException: as the method says.");
        refused(STATE, RefusalEdges::busy, states());
        refused(STATE, Flowkeeper::new, statesOfNew());
        refused(STATE, RefusalEdges::ten, statesOfTen());
        Edge.term("The first line of a method's throws clause that applies decides;");
        refused(null, RefusalEdges::busy, several());
        Edge.term("a call that throws changes nothing.");
        unchanged(RefusalEdges::busy, noSuch(8));
        unchanged(RefusalEdges::busy, outOfRange());
        unchanged(RefusalEdges::busy, states());
        unchanged(RefusalEdges::busy, several());
        unchanged(Flowkeeper::new, noSuch(0));
        unchanged(Flowkeeper::new, outOfRangeAnywhere());
        unchanged(Flowkeeper::new, statesOfNew());
        unchanged(RefusalEdges::ten, statesOfTen());
        unchangedByAnswer();
    }

    /**
     * Eight workflows: 0 waits at a SIDE with a timer and two activities, which the workers 0 and 1 have; 1 is like it,
     * and undoes; 2 has ENDED; 3 was CANCELLED, its child 7 STOPPED; 4 is in its second run; nothing was decided for 5;
     * the history of 6 is full. The worker 2 was stopped with an activity of 1. The type 0 has 4 versions, the type 1
     * has 12 steps told, the type 2 ends with a SIDE that is not followed.
     */
    private static Flowkeeper busy() {
        Flowkeeper x = new Flowkeeper();
        Tale.version(x, 0, UNDO, 1, 0, SIDE, 3, 0, ACT, 0, 0, ACT, 0, 0, TIMER, 9, 0, TELL, 0, 100, WAIT, 0, 0);
        Tale.version(x, 0, WAIT, 1, 0, TELL, 1, 7);
        Tale.version(x, 0, CHILD, 1, 2);
        Tale.version(x, 0, WAIT, 0, 0, AGAIN, 0, 0);
        Tale.tell(x, 1, Edge.times(12, SET, 0, 0));
        Tale.tell(x, 2, SET, 0, 0, SIDE, 2, 0, ACT, 0, 0);
        for (int i = 0; i < 7; i++) {
            x.start(0, i % 3, i);
        }
        x.decide(0, 1);
        x.take(0, 0);
        x.take(1, 0);
        x.decide(1, 1);
        x.take(2, 0);
        x.cancel(1);
        x.decide(1, 1);
        x.take(2, 0);
        x.run(2, false);
        x.signal(2, 1, 5);
        x.decide(2, 2);
        x.decide(3, 3);
        x.cancel(3);
        x.decide(3, 3);
        x.signal(4, 0, 44);
        x.decide(4, 4);
        x.decide(4, 4);
        x.decide(6, 2);
        while (x.signal(6, 0, 0)) {
            continue;
        }
        x.setRate(0, 7);
        x.setRate(1, 3);
        x.tick(2);
        x.signal(0, 2, 9);
        return x;
    }

    private static void add(List<Refusal> list, String name, Class<? extends RuntimeException> by,
            Consumer<Flowkeeper> call) {
        list.add(new Refusal(name, by, call));
    }

    private static List<Refusal> noSuch(int workflows) {
        List<Refusal> list = new ArrayList<>();
        for (int type : Edge.beyond(0, 2)) {
            add(list, "step of type " + type, INDEX, x -> x.step(type, END, 0, 0));
            add(list, "forget of type " + type, INDEX, x -> x.forget(type));
            add(list, "release of type " + type, INDEX, x -> x.release(type));
            add(list, "versions of type " + type, INDEX, x -> x.versions(type));
            add(list, "start of type " + type, INDEX, x -> x.start(type, 0, 0));
            add(list, "start of tenant " + type, INDEX, x -> x.start(0, type, 0));
            add(list, "taken of tenant " + type, INDEX, x -> x.taken(1, type));
        }
        for (int w : Edge.beyond(0, workflows - 1)) {
            add(list, "signal to " + w, INDEX, x -> x.signal(w, 0, 0));
            add(list, "cancel of " + w, INDEX, x -> x.cancel(w));
            add(list, "decide for " + w, INDEX, x -> x.decide(w, 1));
            add(list, "parent of " + w, INDEX, x -> x.parent(w));
            add(list, "runs of " + w, INDEX, x -> x.runs(w));
            add(list, "state of " + w, INDEX, x -> x.state(w, 1));
            add(list, "events of " + w, INDEX, x -> x.events(w, 1));
            add(list, "eventKind of " + w, INDEX, x -> x.eventKind(w, 1, 0));
            add(list, "eventNumber of " + w, INDEX, x -> x.eventNumber(w, 1, 0, true));
            add(list, "property of " + w, INDEX, x -> x.property(w, 0));
            add(list, "isDue of " + w, INDEX, x -> x.isDue(w));
            add(list, "register of " + w, INDEX, x -> x.register(w));
            add(list, "place of " + w, INDEX, x -> x.place(w));
            add(list, "registerAnew of " + w, INDEX, x -> x.registerAnew(w, 1));
        }
        for (int queue : Edge.beyond(0, 1)) {
            add(list, "setRate of " + queue, INDEX, x -> x.setRate(queue, 1));
            add(list, "take from " + queue, INDEX, x -> x.take(3, queue));
            add(list, "ready of " + queue, INDEX, x -> x.ready(queue));
            add(list, "taken from " + queue, INDEX, x -> x.taken(queue, 0));
        }
        for (int worker : Edge.beyond(0, 3)) {
            add(list, "take of " + worker, INDEX, x -> x.take(worker, 0));
            add(list, "has of " + worker, INDEX, x -> x.has(worker));
            add(list, "beat of " + worker, INDEX, x -> x.beat(worker));
            add(list, "end of " + worker, INDEX, x -> x.end(worker, 0));
            add(list, "fail of " + worker, INDEX, x -> x.fail(worker));
            add(list, "stop of " + worker, INDEX, x -> x.run(worker, false));
            add(list, "start of worker " + worker, INDEX, x -> x.run(worker, true));
        }
        if (workflows > 0) {
            noSuchPart(list);
        }
        return list;
    }

    private static void noSuchPart(List<Refusal> list) {
        for (int version : Edge.beyond(1, 4)) {
            add(list, "decide with version " + version, INDEX, x -> x.decide(0, version));
            add(list, "registerAnew with version " + version, INDEX, x -> x.registerAnew(0, version));
        }
        add(list, "decide for a child of a type that has no version", INDEX, x -> x.decide(7, 1));
        for (int run : Edge.beyond(1, 2)) {
            add(list, "state of run " + run, INDEX, x -> x.state(4, run));
            add(list, "events of run " + run, INDEX, x -> x.events(4, run));
            add(list, "eventKind of run " + run, INDEX, x -> x.eventKind(4, run, 0));
            add(list, "eventNumber of run " + run, INDEX, x -> x.eventNumber(4, run, 0, false));
        }
        for (int event : Edge.beyond(0, 77)) {
            add(list, "eventKind of event " + event, INDEX, x -> x.eventKind(6, 1, event));
            add(list, "eventNumber of event " + event, INDEX, x -> x.eventNumber(6, 1, event, true));
        }
    }

    private static List<Refusal> outOfRangeAnywhere() {
        List<Refusal> list = new ArrayList<>();
        for (int kind : Edge.beyond(0, 15)) {
            add(list, "step of kind " + kind, ARGUMENT, x -> x.step(0, kind, 0, 0));
        }
        for (int a : Edge.beyond(-99, 99)) {
            add(list, "SET " + a, ARGUMENT, x -> x.step(1, SET, a, 0));
            add(list, "start with " + a, ARGUMENT, x -> x.start(0, 0, a));
            add(list, "end with " + a, ARGUMENT, x -> x.end(0, a));
        }
        for (int b : Edge.beyond(1, 11)) {
            add(list, "SKIP by " + b, ARGUMENT, x -> x.step(2, SKIP, 0, b));
        }
        for (int rate : Edge.beyond(1, 9)) {
            add(list, "setRate of 0 to " + rate, ARGUMENT, x -> x.setRate(0, rate));
            add(list, "setRate of 1 to " + rate, ARGUMENT, x -> x.setRate(1, rate));
        }
        for (int ticks : Edge.beyond(1, 50)) {
            add(list, "tick " + ticks, ARGUMENT, x -> x.tick(ticks));
        }
        for (int property : Edge.beyond(0, 1)) {
            add(list, "found of property " + property, ARGUMENT, x -> x.found(property, 0, 0));
        }
        add(list, "found from 1 to 0", ARGUMENT, x -> x.found(0, 1, 0));
        return list;
    }

    private static List<Refusal> outOfRange() {
        List<Refusal> list = outOfRangeAnywhere();
        for (int which : Edge.beyond(0, 2)) {
            add(list, "signal " + which, ARGUMENT, x -> x.signal(0, which, 0));
        }
        for (int value : Edge.beyond(-99, 99)) {
            add(list, "signal with " + value, ARGUMENT, x -> x.signal(0, 0, value));
        }
        for (int property : Edge.beyond(0, 1)) {
            add(list, "property " + property, ARGUMENT, x -> x.property(0, property));
        }
        return list;
    }

    private static List<Refusal> states() {
        List<Refusal> list = new ArrayList<>();
        add(list, "step of a fifth version", STATE, x -> x.step(0, END, 0, 0));
        add(list, "a thirteenth step", STATE, x -> x.step(1, END, 0, 0));
        add(list, "release of no steps", STATE, x -> x.release(0));
        add(list, "release of a SIDE that is not followed", STATE, x -> x.release(2));
        add(list, "decide for one that has ENDED", STATE, x -> x.decide(2, 2));
        add(list, "decide for one that was CANCELLED", STATE, x -> x.decide(3, 3));
        add(list, "take of one that has an activity", STATE, x -> x.take(0, 0));
        add(list, "take of one that does not run", STATE, x -> x.take(2, 0));
        for (int worker = 2; worker <= 3; worker++) {
            int n = worker;
            add(list, "beat of " + n + " without an activity", STATE, x -> x.beat(n));
            add(list, "end of " + n + " without an activity", STATE, x -> x.end(n, 0));
            add(list, "fail of " + n + " without an activity", STATE, x -> x.fail(n));
        }
        return list;
    }

    private static Flowkeeper ten() {
        Flowkeeper x = busy();
        x.start(2, 0, 0);
        x.start(2, 0, 0);
        return x;
    }

    private static List<Refusal> statesOfTen() {
        return List.of(new Refusal("start of an eleventh workflow", STATE, x -> x.start(0, 0, 0)));
    }

    private static List<Refusal> statesOfNew() {
        List<Refusal> list = new ArrayList<>();
        for (int type = 0; type < 3; type++) {
            int n = type;
            add(list, "release of no steps", STATE, x -> x.release(n));
        }
        for (int worker = 0; worker < 4; worker++) {
            int n = worker;
            add(list, "beat", STATE, x -> x.beat(n));
            add(list, "end", STATE, x -> x.end(n, 0));
            add(list, "fail", STATE, x -> x.fail(n));
        }
        return list;
    }

    /** More than one line applies. */
    private static List<Refusal> several() {
        List<Refusal> list = new ArrayList<>();
        add(list, "step: type and kind", INDEX, x -> x.step(3, 16, 0, 0));
        add(list, "step: kind and a fifth version", ARGUMENT, x -> x.step(0, 16, 0, 0));
        add(list, "step: b and a thirteenth step", ARGUMENT, x -> x.step(1, END, 0, 1));
        add(list, "start: type and value", INDEX, x -> x.start(-1, 0, 100));
        add(list, "start: tenant and value", INDEX, x -> x.start(0, 3, -100));
        add(list, "signal: workflow and which", INDEX, x -> x.signal(8, 3, 0));
        add(list, "signal: value, to one that is over", ARGUMENT, x -> x.signal(2, 0, 100));
        add(list, "signal: which, to one with a full history", ARGUMENT, x -> x.signal(6, 3, 0));
        add(list, "decide: version, for one that is over", INDEX, x -> x.decide(2, 5));
        add(list, "decide: workflow and version", INDEX, x -> x.decide(8, 5));
        add(list, "setRate: queue and rate", INDEX, x -> x.setRate(2, 0));
        add(list, "take: queue, by one that does not run", INDEX, x -> x.take(2, 2));
        add(list, "take: queue, by one that has an activity", INDEX, x -> x.take(0, -1));
        add(list, "take: worker and queue", INDEX, x -> x.take(4, 2));
        add(list, "end: worker and result", INDEX, x -> x.end(4, 100));
        add(list, "end: result, by one that has none", ARGUMENT, x -> x.end(3, 100));
        add(list, "property: workflow and property", INDEX, x -> x.property(8, 2));
        add(list, "found: property and range", ARGUMENT, x -> x.found(2, 1, 0));
        return list;
    }

    private static void refused(Class<? extends RuntimeException> by, Supplier<Flowkeeper> scene, List<Refusal> list) {
        Flowkeeper x = scene.get();
        for (Refusal r : list) {
            Check.fails(r.name, by == null ? r.by : by, () -> r.call.accept(x));
        }
    }

    /** What comes of all further calls is as if the refused ones had not been. */
    private static void unchanged(Supplier<Flowkeeper> scene, List<Refusal> list) {
        String before = Look.at(scene.get());
        String want = Look.deep(scene.get());
        Flowkeeper all = scene.get();
        for (Refusal r : list) {
            Flowkeeper x = scene.get();
            Check.fails(r.name, r.by, () -> r.call.accept(x));
            Check.same("what can be asked behind " + r.name, before, Look.at(x));
            Check.same("what comes behind " + r.name, want, Look.deep(x));
            Check.fails(r.name, r.by, () -> r.call.accept(all));
        }
        Check.same("what comes behind all of them", want, Look.deep(all));
    }

    /** Calls that answer that they do nothing do nothing, either. */
    private static void unchangedByAnswer() {
        List<Consumer<Flowkeeper>> calls = List.of(
                x -> Check.due("signal to one that is over", 0, () -> Check.truth(x.signal(2, 0, 0))),
                x -> Check.due("signal to one that was CANCELLED", 0, () -> Check.truth(x.signal(3, 0, 0))),
                x -> Check.due("signal to one that is STOPPED", 0, () -> Check.truth(x.signal(7, 0, 0))),
                x -> Check.due("signal to a full history", 0, () -> Check.truth(x.signal(6, 0, 0))),
                x -> Check.due("cancel of one that is asked already", 0, () -> Check.truth(x.cancel(1))),
                x -> Check.due("cancel of one that is over", 0, () -> Check.truth(x.cancel(2))),
                x -> Check.due("cancel of one that is STOPPED", 0, () -> Check.truth(x.cancel(7))),
                x -> Check.due("cancel of a full history", 0, () -> Check.truth(x.cancel(6))),
                x -> Check.due("decide: nothing is to be done", NONE, () -> x.decide(1, 1)),
                x -> Check.due("decide: nothing is to be done", NONE, () -> x.decide(4, 1)),
                x -> Check.due("decide: it differs", MISMATCH, () -> x.decide(0, 2)),
                x -> Check.due("registerAnew: it differs", -2000, () -> x.registerAnew(0, 2)),
                x -> Check.due("registerAnew: it is the same", 0, () -> x.registerAnew(0, 1)),
                x -> Check.due("take: none is ready", NONE, () -> x.take(3, 1)),
                x -> Check.due("start of a worker that runs", 1, () -> Check.truth(x.run(0, true))),
                x -> Check.due("stop of a worker that does not run", 0, () -> Check.truth(x.run(2, false))),
                x -> Check.due("forget of no steps", 0, () -> x.forget(0)));
        String want = Look.deep(busy());
        for (Consumer<Flowkeeper> call : calls) {
            Flowkeeper x = busy();
            call.accept(x);
            Check.same("what comes behind it", want, Look.deep(x));
        }
    }
}
