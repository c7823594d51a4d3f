import java.util.ArrayList;
import java.util.List;
import java.util.TreeMap;

/**
 * The document a second time, told in another way: a program is walked through by plain code that asks for the next
 * thing that happens (Walk), and leaves by exceptions. ModelTest holds Flowkeeper against it.
 */
final class Model {
    static final int ACT = 0, TIMER = 1, WAIT = 2, CHILD = 3, SIDE = 4, SKIP = 5, BACK = 6, SET = 7, ADD = 8, UNDO = 9,
            MARK = 10, GUARD = 11, TELL = 12, FAIL = 13, AGAIN = 14, END = 15;
    static final int STARTED = 0, DONE = 1, LOST = 2, FIRED = 3, SIGNAL = 4, CHILD_OVER = 5, CANCEL = 6, DECIDED = 7,
            ACTIVITY = 8, ACTIVITY_OFF = 9, TIMER_SET = 10, TIMER_OFF = 11, CHILD_MADE = 12, MARKED = 13, TOLD = 14,
            UNDOING = 15, OVER = 16;
    static final int RUNNING = 20, ENDED = 21, FAILED = 22, CANCELLED = 23, STOPPED = 24;

    record Step(int kind, int a, int b) { }

    record Event(int kind, int x, int y) {
        boolean happens() {
            return kind <= CANCEL;
        }
    }

    static final class Act {
        int flow, run, number, queue, tenant, born, since, tries;
        /** -1: nobody; the lease ends in the tick until. */
        boolean leased;
        /** Rests up to the tick until. */
        boolean rests;
        boolean gone;
        int until;
        int worker = -1;
    }

    static final class Round {
        final List<Event> history = new ArrayList<>();
        final List<Act> acts = new ArrayList<>();
        final TreeMap<Integer, Integer> timers = new TreeMap<>();
        int timersSet, children, state = RUNNING, register, place = -1;
    }

    static final class Flow {
        int number, type, tenant, parent = -1, parentRun, childNumber, fate;
        final List<Round> rounds = new ArrayList<>();
        final int[] properties = new int[2];

        Round last() {
            return rounds.get(rounds.size() - 1);
        }
    }

    final List<List<List<Step>>> released = new ArrayList<>();
    final List<List<Step>> told = new ArrayList<>();
    final List<Flow> flows = new ArrayList<>();
    final int[] rate = {9, 9};
    final int[] inTick = {0, 0};
    final int[][] taken = new int[2][3];
    final boolean[] works = {true, true, true, true};
    final Act[] has = new Act[4];
    int clock, born;

    Model() {
        for (int i = 0; i < 3; i++) {
            released.add(new ArrayList<>());
            told.add(new ArrayList<>());
        }
    }

    // ---- programs

    private static void index(boolean there) {
        if (!there) {
            throw new IndexOutOfBoundsException();
        }
    }

    private static void argument(boolean right) {
        if (!right) {
            throw new IllegalArgumentException();
        }
    }

    private static void state(boolean right) {
        if (!right) {
            throw new IllegalStateException();
        }
    }

    private static boolean in(int v, int low, int high) {
        return low <= v && v <= high;
    }

    int step(int type, int kind, int a, int b) {
        index(in(type, 0, 2));
        switch (kind) {
            case ACT, UNDO -> argument(in(a, 0, 5) && in(b, 0, 1));
            case TIMER -> argument(in(a, 1, 50) && b == 0);
            case WAIT -> argument(in(a, 0, 2) && in(b, 0, 50));
            case CHILD -> argument(in(a, 0, 2) && in(b, 0, 2));
            case SIDE -> argument(in(a, 1, 3) && b == 0);
            case SKIP, BACK -> argument(in(a, -99, 99) && in(b, 1, 11));
            case SET, ADD -> argument(in(a, -99, 99) && b == 0);
            case MARK -> argument(in(a, 0, 3) && in(b, 1, 11));
            case GUARD -> argument(in(a, 1, 11) && b == 0);
            case TELL -> argument(in(a, 0, 1) && in(b, -99, 100));
            case FAIL -> argument(in(a, 1, 9) && b == 0);
            case AGAIN, END -> argument(a == 0 && b == 0);
            default -> argument(false);
        }
        state(told.get(type).size() < 12 && released.get(type).size() < 4);
        told.get(type).add(new Step(kind, a, b));
        return told.get(type).size();
    }

    int forget(int type) {
        index(in(type, 0, 2));
        int n = told.get(type).size();
        told.get(type).clear();
        return n;
    }

    int release(int type) {
        index(in(type, 0, 2));
        List<Step> steps = told.get(type);
        state(!steps.isEmpty());
        for (int i = 0; i < steps.size(); i++) {
            Step s = steps.get(i);
            if (s.kind == SKIP || s.kind == MARK) {
                state(i + s.b < steps.size());
            }
            if (s.kind == BACK) {
                state(s.b <= i);
            }
            for (int j = 1; s.kind == SIDE && j <= s.a; j++) {
                state(i + j < steps.size() && steps.get(i + j).kind <= CHILD);
            }
        }
        released.get(type).add(new ArrayList<>(steps));
        steps.clear();
        return released.get(type).size();
    }

    int versions(int type) {
        index(in(type, 0, 2));
        return released.get(type).size();
    }

    // ---- workflows

    private Flow flow(int w) {
        index(in(w, 0, flows.size() - 1));
        return flows.get(w);
    }

    private Flow make(int type, int tenant, int register) {
        Flow f = new Flow();
        f.number = flows.size();
        f.type = type;
        f.tenant = tenant;
        flows.add(f);
        open(f, register);
        return f;
    }

    private static void open(Flow f, int register) {
        f.rounds.add(new Round());
        f.last().history.add(new Event(STARTED, register, 0));
    }

    int start(int type, int tenant, int value) {
        index(in(type, 0, 2) && in(tenant, 0, 2));
        argument(in(value, -99, 99));
        state(flows.size() < 10);
        return make(type, tenant, value).number;
    }

    private static boolean happens(Round r, Event e) {
        if (r.state != RUNNING || r.history.size() >= 78) {
            return false;
        }
        r.history.add(e);
        return true;
    }

    boolean signal(int w, int which, int value) {
        Flow f = flow(w);
        argument(in(which, 0, 2) && in(value, -99, 99));
        return happens(f.last(), new Event(SIGNAL, which, value));
    }

    boolean cancel(int w) {
        return askCancel(flow(w).last());
    }

    private static boolean askCancel(Round r) {
        Event c = new Event(CANCEL, 0, 0);
        return !r.history.contains(c) && happens(r, c);
    }

    private List<Step> program(Flow f, int version) {
        index(in(version, 1, released.get(f.type).size()));
        return released.get(f.type).get(version - 1);
    }

    private static boolean due(Round r) {
        boolean news = false;
        for (Event e : r.history) {
            news = e.kind == DECIDED ? false : news || e.happens();
        }
        return r.state == RUNNING && news;
    }

    int decide(int w, int version) {
        Flow f = flow(w);
        List<Step> program = program(f, version);
        Round r = f.last();
        state(r.state == RUNNING);
        if (!due(r)) {
            return -1;
        }
        Walk walk = new Walk(program, r.history, f.rounds.size(), true);
        if (!walk.go()) {
            return -2;
        }
        List<Event> fresh = walk.fresh;
        int length = r.history.size() + 1 + fresh.size();
        boolean over = !fresh.isEmpty() && fresh.get(fresh.size() - 1).kind == OVER;
        if (over ? length > 80 : length > 77) {
            fresh = List.of(new Event(OVER, FAILED, 8));
        } else {
            r.register = walk.register;
            r.place = walk.waitsAt;
        }
        r.history.add(new Event(DECIDED, version, 0));
        r.history.addAll(fresh);
        List<Integer> unmade = new ArrayList<>();
        int child = 0;
        for (Event e : fresh) {
            switch (e.kind) {
                case ACTIVITY, UNDOING -> r.acts.add(act(f, e.y));
                case ACTIVITY_OFF -> off(r.acts.get(e.x));
                case TIMER_SET -> r.timers.put(r.timersSet++, clock + e.x);
                case TIMER_OFF -> r.timers.remove(e.x);
                case TOLD -> f.properties[e.x] = e.y;
                case CHILD_MADE -> {
                    if (flows.size() == 10) {
                        unmade.add(r.children);
                    } else {
                        Flow c = make(e.x, f.tenant, walk.registersOfChildren.get(child));
                        c.parent = w;
                        c.parentRun = f.rounds.size();
                        c.childNumber = r.children;
                        c.fate = e.y;
                    }
                    child++;
                    r.children++;
                }
                case OVER -> over(f, e.x, e.y, walk.inbox);
                default -> { }
            }
        }
        for (int n : unmade) {
            happens(r, new Event(CHILD_OVER, n, -1));
        }
        return fresh.size();
    }

    private Act act(Flow f, int queue) {
        Act a = new Act();
        a.flow = f.number;
        a.run = f.rounds.size();
        a.number = f.last().acts.size();
        a.queue = queue;
        a.tenant = f.tenant;
        a.born = born++;
        a.since = clock;
        return a;
    }

    private void off(Act a) {
        a.gone = true;
        drop(a);
    }

    private void drop(Act a) {
        a.leased = false;
        for (int i = 0; i < 4; i++) {
            if (has[i] == a) {
                has[i] = null;
            }
        }
    }

    private void over(Flow f, int state, int result, List<Event> inbox) {
        Round r = f.last();
        r.state = state;
        letGo(f);
        if (state == AGAIN) {
            boolean cancelled = r.history.contains(new Event(CANCEL, 0, 0));
            open(f, result);
            for (Event s : inbox) {
                happens(f.last(), s);
            }
            if (cancelled) {
                askCancel(f.last());
            }
        } else if (f.parent >= 0 && flows.get(f.parent).rounds.size() == f.parentRun) {
            happens(flows.get(f.parent).last(), new Event(CHILD_OVER, f.childNumber, state == ENDED ? result : -1));
        }
    }

    private void letGo(Flow f) {
        Round r = f.last();
        r.place = -1;
        r.acts.forEach(this::off);
        r.timers.clear();
        for (Flow c : List.copyOf(flows)) {
            if (c.parent == f.number && c.parentRun == f.rounds.size() && c.last().state == RUNNING) {
                if (c.fate == 1) {
                    askCancel(c.last());
                } else if (c.fate == 2) {
                    c.last().state = STOPPED;
                    letGo(c);
                }
            }
        }
    }

    // ---- activities

    int setRate(int queue, int to) {
        index(in(queue, 0, 1));
        argument(in(to, 1, 9));
        int before = rate[queue];
        rate[queue] = to;
        return before;
    }

    private static int name(Act a) {
        return a.flow * 1000 + a.run * 100 + a.number;
    }

    private List<Act> readyOn(int queue) {
        List<Act> list = new ArrayList<>();
        for (Flow f : flows) {
            for (Round r : f.rounds) {
                for (Act a : r.acts) {
                    if (a.queue == queue && !a.gone && !a.leased && !a.rests) {
                        list.add(a);
                    }
                }
            }
        }
        return list;
    }

    int take(int worker, int queue) {
        index(in(worker, 0, 3) && in(queue, 0, 1));
        state(works[worker] && has[worker] == null);
        if (inTick[queue] >= rate[queue]) {
            return -1;
        }
        List<Act> list = readyOn(queue);
        if (list.isEmpty()) {
            return -1;
        }
        int tenant = -1;
        for (Act a : list) {
            if (tenant < 0 || taken[queue][a.tenant] < taken[queue][tenant]
                    || taken[queue][a.tenant] == taken[queue][tenant] && a.tenant < tenant) {
                tenant = a.tenant;
            }
        }
        Act best = null;
        for (Act a : list) {
            if (a.tenant == tenant && (best == null || a.since < best.since
                    || a.since == best.since && a.born < best.born)) {
                best = a;
            }
        }
        inTick[queue]++;
        taken[queue][tenant]++;
        best.leased = true;
        best.tries++;
        best.until = clock + 10;
        has[worker] = best;
        return name(best);
    }

    int has(int worker) {
        index(in(worker, 0, 3));
        return has[worker] == null ? -1 : name(has[worker]);
    }

    int beat(int worker) {
        index(in(worker, 0, 3));
        state(has[worker] != null);
        has[worker].until = clock + 10;
        return clock + 10;
    }

    private Round home(Act a) {
        return flows.get(a.flow).rounds.get(a.run - 1);
    }

    boolean end(int worker, int result) {
        index(in(worker, 0, 3));
        argument(in(result, -99, 99));
        state(has[worker] != null);
        Act a = has[worker];
        off(a);
        return happens(home(a), new Event(DONE, a.number, result));
    }

    int fail(int worker) {
        index(in(worker, 0, 3));
        state(has[worker] != null);
        Act a = has[worker];
        int tries = a.tries;
        lost(a);
        return tries;
    }

    private void lost(Act a) {
        drop(a);
        if (a.tries == 3) {
            a.gone = true;
            happens(home(a), new Event(LOST, a.number, 0));
        } else {
            a.rests = true;
            a.until = clock + (a.tries == 1 ? 2 : 4);
        }
    }

    boolean run(int worker, boolean runs) {
        index(in(worker, 0, 3));
        boolean had = has[worker] != null;
        if (!runs) {
            has[worker] = null;
        }
        works[worker] = runs;
        return had;
    }

    int ready(int queue) {
        index(in(queue, 0, 1));
        return readyOn(queue).size();
    }

    int taken(int queue, int tenant) {
        index(in(queue, 0, 1) && in(tenant, 0, 2));
        return taken[queue][tenant];
    }

    // ---- time

    int tick(int ticks) {
        argument(in(ticks, 1, 50));
        for (int i = 0; i < ticks; i++) {
            clock++;
            inTick[0] = 0;
            inTick[1] = 0;
            for (Flow f : flows) {
                for (Round r : f.rounds) {
                    for (int t : new ArrayList<>(r.timers.keySet())) {
                        if (r.timers.get(t) == clock) {
                            r.timers.remove(t);
                            happens(r, new Event(FIRED, t, 0));
                        }
                    }
                }
            }
            for (Flow f : flows) {
                for (Round r : f.rounds) {
                    for (Act a : r.acts) {
                        if (a.leased && !a.gone && a.until == clock) {
                            lost(a);
                        }
                    }
                }
            }
            for (Flow f : flows) {
                for (Round r : f.rounds) {
                    for (Act a : r.acts) {
                        if (a.rests && !a.gone && a.until == clock) {
                            a.rests = false;
                            a.since = clock;
                        }
                    }
                }
            }
        }
        return clock;
    }

    int clock() {
        return clock;
    }

    // ---- what is asked

    int workflows() {
        return flows.size();
    }

    int parent(int w) {
        return flow(w).parent;
    }

    int runs(int w) {
        return flow(w).rounds.size();
    }

    private Round round(int w, int run) {
        Flow f = flow(w);
        index(in(run, 1, f.rounds.size()));
        return f.rounds.get(run - 1);
    }

    int state(int w, int run) {
        return round(w, run).state;
    }

    int events(int w, int run) {
        return round(w, run).history.size();
    }

    private Event event(int w, int run, int place) {
        Round r = round(w, run);
        index(in(place, 0, r.history.size() - 1));
        return r.history.get(place);
    }

    int eventKind(int w, int run, int place) {
        return event(w, run, place).kind;
    }

    int eventNumber(int w, int run, int place, boolean first) {
        Event e = event(w, run, place);
        return first ? e.x : e.y;
    }

    int property(int w, int property) {
        Flow f = flow(w);
        argument(in(property, 0, 1));
        return f.properties[property];
    }

    int found(int property, int low, int high) {
        argument(in(property, 0, 1));
        argument(low <= high);
        return (int) flows.stream().filter(f -> f.last().state == RUNNING && f.properties[property] >= low
                && f.properties[property] <= high).count();
    }

    boolean isDue(int w) {
        return due(flow(w).last());
    }

    int register(int w) {
        return flow(w).last().register;
    }

    int place(int w) {
        return flow(w).last().place;
    }

    int registerAnew(int w, int version) {
        Flow f = flow(w);
        List<Step> program = program(f, version);
        if (f.last().history.stream().noneMatch(e -> e.kind == DECIDED)) {
            return 0;
        }
        Walk walk = new Walk(program, f.last().history, f.rounds.size(), false);
        return walk.go() ? walk.register : -2000;
    }

    // ---- a walk through a program

    /** The history is at its end. */
    private static final class Stop extends RuntimeException { }

    /** Something else was decided then. */
    private static final class Differs extends RuntimeException { }

    private static final class Fails extends RuntimeException {
        final int state;
        final int number;

        Fails(int state, int number) {
            this.state = state;
            this.number = number;
        }
    }

    private static final class Ends extends RuntimeException {
        final int state;

        Ends(int state) {
            this.state = state;
        }
    }

    private static final class Wait {
        Step step;
        int activity = -1, timer = -1, child = -1;
        boolean over, lost;
        int result;
    }

    static final class Walk {
        final List<Step> program;
        final List<Event> history;
        final int run;
        final boolean alsoSince;
        final List<Event> fresh = new ArrayList<>();
        final List<Event> inbox = new ArrayList<>();
        final List<Integer> registersOfChildren = new ArrayList<>();
        final List<Step> undo = new ArrayList<>();
        final boolean[] marked = new boolean[4];
        int register, waitsAt = -1, position, activities, timers, children, gone, guards;
        boolean cancelled;

        Walk(List<Step> program, List<Event> history, int run, boolean alsoSince) {
            this.program = program;
            this.history = history;
            this.run = run;
            this.alsoSince = alsoSince;
        }

        /** Returns false if something differs. */
        boolean go() {
            try {
                try {
                    wholeRun();
                } catch (Fails f) {
                    waitsAt = -1;
                    backOut(f);
                } catch (Ends e) {
                    emit(OVER, e.state, register);
                }
                for (;;) {
                    Event e = pull();
                    if (e.kind == SIGNAL) {
                        inbox.add(e);
                    }
                }
            } catch (Stop s) {
                return true;
            } catch (Differs d) {
                return false;
            }
        }

        private void backOut(Fails f) {
            for (int i = undo.size() - 1; i >= 0; i--) {
                int number = activities++;
                emit(UNDOING, undo.get(i).a, undo.get(i).b);
                for (;;) {
                    Event e = pull();
                    if ((e.kind == DONE || e.kind == LOST) && e.x == number) {
                        break;
                    }
                }
            }
            emit(OVER, f.state, f.number);
        }

        private void emit(int kind, int x, int y) {
            fresh.add(new Event(kind, x, y));
        }

        private List<Event> decidedBehind(int decided) {
            int end = decided + 1;
            while (end < history.size() && history.get(end).kind > DECIDED) {
                end++;
            }
            return history.subList(decided + 1, end);
        }

        private int nextDecided() {
            for (int i = position; i < history.size(); i++) {
                if (history.get(i).kind == DECIDED) {
                    return i;
                }
            }
            return -1;
        }

        private Event pull() {
            while (position < history.size()) {
                Event e = history.get(position);
                if (e.kind == DECIDED) {
                    List<Event> decided = decidedBehind(position);
                    if (!decided.equals(fresh)) {
                        throw new Differs();
                    }
                    position += 1 + decided.size();
                    fresh.clear();
                    registersOfChildren.clear();
                } else if (!alsoSince && nextDecided() < 0) {
                    throw new Stop();
                } else {
                    position++;
                    gone = 0;
                    return e;
                }
            }
            throw new Stop();
        }

        private void wholeRun() {
            register = pull().x;
            int at = 0;
            for (;;) {
                boolean guarded = guards > 0;
                if (cancelled && !guarded) {
                    throw new Fails(CANCELLED, 0);
                }
                if (at == program.size()) {
                    throw new Ends(ENDED);
                }
                if (++gone > 60) {
                    throw new Fails(FAILED, 9);
                }
                guards -= guarded ? 1 : 0;
                at = through(at, guarded);
            }
        }

        private int through(int at, boolean guarded) {
            Step s = program.get(at);
            switch (s.kind) {
                case SIDE:
                    await(at, program.subList(at + 1, at + 1 + s.a), guarded);
                    return at + 1 + s.a;
                case SKIP:
                    return register < s.a ? at + 1 + s.b : at + 1;
                case BACK:
                    return register < s.a ? at - s.b : at + 1;
                case SET:
                    register = s.a;
                    return at + 1;
                case ADD:
                    register += s.a;
                    if (register > 999) {
                        register = 999;
                    }
                    if (register < -999) {
                        register = -999;
                    }
                    return at + 1;
                case UNDO:
                    undo.add(s);
                    return at + 1;
                case MARK:
                    return mark(s.a) ? at + 1 : at + 1 + s.b;
                case GUARD:
                    guards = s.a > guards ? s.a : guards;
                    return at + 1;
                case TELL:
                    emit(TOLD, s.a, s.b == 100 ? register : s.b);
                    return at + 1;
                case FAIL:
                    throw new Fails(FAILED, s.a);
                case AGAIN:
                    if (run == 9) {
                        throw new Fails(FAILED, 7);
                    }
                    throw new Ends(AGAIN);
                case END:
                    throw new Ends(ENDED);
                default:
                    await(at, List.of(s), guarded);
                    return at + 1;
            }
        }

        private boolean mark(int m) {
            if (marked[m]) {
                return true;
            }
            int decided = nextDecided();
            if (decided >= 0) {
                List<Event> then = decidedBehind(decided);
                if (fresh.size() >= then.size() || !then.get(fresh.size()).equals(new Event(MARKED, m, 0))) {
                    return false;
                }
            }
            marked[m] = true;
            emit(MARKED, m, 0);
            return true;
        }

        private Wait begin(Step s) {
            Wait w = new Wait();
            w.step = s;
            if (s.kind == ACT) {
                emit(ACTIVITY, s.a, s.b);
                w.activity = activities++;
            } else if (s.kind == TIMER) {
                emit(TIMER_SET, s.a, 0);
                w.timer = timers++;
            } else if (s.kind == CHILD) {
                emit(CHILD_MADE, s.a, s.b);
                w.child = children++;
                registersOfChildren.add(register);
            } else {
                for (Event e : inbox) {
                    if (e.x == s.a) {
                        inbox.remove(e);
                        w.over = true;
                        w.result = e.y;
                        return w;
                    }
                }
                if (s.b > 0) {
                    emit(TIMER_SET, s.b, 0);
                    w.timer = timers++;
                }
            }
            return w;
        }

        private void await(int at, List<Step> steps, boolean guarded) {
            List<Wait> waits = new ArrayList<>();
            for (Step s : steps) {
                waits.add(begin(s));
            }
            waitsAt = at;
            while (waits.stream().anyMatch(w -> !w.over)) {
                hear(pull(), waits, guarded);
            }
            waitsAt = -1;
            boolean lost = false;
            for (Wait w : waits) {
                lost |= w.lost;
                if (!w.lost && w.step.kind != TIMER) {
                    register = w.result;
                }
            }
            if (lost) {
                throw new Fails(FAILED, 1);
            }
        }

        private void hear(Event e, List<Wait> waits, boolean guarded) {
            if (e.kind == CANCEL) {
                cancelled = true;
                if (!guarded) {
                    waits.stream().filter(w -> !w.over && w.activity >= 0).forEach(w -> emit(ACTIVITY_OFF, w.activity, 0));
                    waits.stream().filter(w -> !w.over && w.timer >= 0).forEach(w -> emit(TIMER_OFF, w.timer, 0));
                    throw new Fails(CANCELLED, 0);
                }
                return;
            }
            for (Wait w : waits) {
                if (w.over) {
                    continue;
                }
                boolean mine = switch (e.kind) {
                    case DONE, LOST -> w.activity == e.x;
                    case FIRED -> w.timer == e.x;
                    case CHILD_OVER -> w.child == e.x;
                    case SIGNAL -> w.step.kind == WAIT && w.step.a == e.x;
                    default -> false;
                };
                if (mine) {
                    w.over = true;
                    w.lost = e.kind == LOST;
                    w.result = e.kind == FIRED ? -1 : e.y;
                    if (e.kind == SIGNAL && w.timer >= 0) {
                        emit(TIMER_OFF, w.timer, 0);
                    }
                    return;
                }
            }
            if (e.kind == SIGNAL) {
                inbox.add(e);
            }
        }
    }
}
