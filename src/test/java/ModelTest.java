import java.util.ArrayList;
import java.util.List;
import java.util.Random;
import java.util.TreeMap;

/** Runs of chance calls, the same for every start of the test: Flowkeeper must answer as Model does. */
final class ModelTest {
    private static final int RUNS = Integer.getInteger("runs", 4000);
    private static final int CALLS = 512;

    private static final TreeMap<String, Integer> SEEN = new TreeMap<>();

    private final Random chance;
    private final Flowkeeper x = new Flowkeeper();
    private final Model y = new Model();
    private final List<String> calls = new ArrayList<>();
    /** What this run does more often than others. */
    private final int flavour;
    private final int wild;

    private interface Answer {
        long give();
    }

    private ModelTest(long seed) {
        chance = new Random(seed);
        flavour = (int) (seed % 8);
        wild = seed % 5 == 0 ? 12 : 2;
    }

    public static void main(String[] args) {
        for (int i = 0; i < RUNS; i++) {
            new ModelTest(i).go(i);
        }
        System.out.println("  seen: " + SEEN);
        for (String must : new String[] {"OVER 22 1", "OVER 22 7", "OVER 22 8", "OVER 22 9", "OVER 14", "OVER 21",
            "OVER 23", "STOPPED", "MISMATCH", "MISMATCH anew", "no room for a child", "78 events",
            "80 events, and it did not fail with 8", "77 events behind a decision"}) {
            Check.holds("the runs come to " + must, () -> Check.truth(SEEN.containsKey(must)));
        }
        Check.done("ModelTest");
    }

    private static void seen(String what) {
        SEEN.merge(what, 1, Integer::sum);
    }

    private int any(int low, int high) {
        if (chance.nextInt(100) < wild) {
            return chance.nextBoolean() ? low - 1 : high + 1;
        }
        return low + chance.nextInt(high - low + 1);
    }

    private boolean odds(int percent) {
        return chance.nextInt(100) < percent;
    }

    private void go(int seed) {
        programs();
        while (calls.size() < CALLS) {
            if (!call()) {
                System.out.println("seed " + seed + ": " + calls.size() + " calls");
                for (int i = Math.max(0, calls.size() - 60); i < calls.size(); i++) {
                    System.out.println("    " + calls.get(i));
                }
                System.exit(1);
            }
        }
        if (!sameWhole()) {
            System.out.println("seed " + seed + " at its end");
            calls.forEach(c -> System.out.println("    " + c));
            System.exit(1);
        }
        collect();
    }

    private void collect() {
        for (int w = 0; w < x.workflows(); w++) {
            for (int r = 1; r <= x.runs(w); r++) {
                if (x.state(w, r) == Flowkeeper.STOPPED) {
                    seen("STOPPED");
                }
                edges(w, r);
                for (int e = 0; e < x.events(w, r); e++) {
                    int kind = x.eventKind(w, r, e);
                    int first = x.eventNumber(w, r, e, true);
                    int second = x.eventNumber(w, r, e, false);
                    if (kind == Flowkeeper.OVER) {
                        seen("OVER " + first + (first == Flowkeeper.FAILED ? " " + second : ""));
                    }
                    if (kind == Flowkeeper.CHILD_OVER && second == -1
                            && x.eventKind(w, r, e - 1) != Flowkeeper.CHILD_OVER && e > 0
                            && x.eventKind(w, r, e - 1) == Flowkeeper.CHILD_MADE) {
                        seen("no room for a child");
                    }
                }
            }
        }
    }

    /** Whether the run came to the edge of what its history can have. */
    private void edges(int w, int r) {
        int last = x.events(w, r) - 1;
        boolean isOver = x.state(w, r) != Flowkeeper.RUNNING && x.state(w, r) != Flowkeeper.STOPPED;
        if (last == 79 && x.eventNumber(w, r, last, false) != 8) {
            seen("80 events, and it did not fail with 8");
        }
        if (!isOver && last == 77) {
            seen("78 events");
        }
        if (last >= 77 && x.eventKind(w, r, 76) >= Flowkeeper.DECIDED && x.eventKind(w, r, 77) < Flowkeeper.DECIDED) {
            seen("77 events behind a decision");
        }
    }

    // ---- one call on both

    private boolean same(String call, Answer one, Answer other) {
        String got = text(one);
        String want = text(other);
        calls.add(call + " -> " + got);
        if (!got.equals(want)) {
            Check.same(call, want, got);
            return false;
        }
        if (calls.size() % 16 == 0 && !sameWhole()) {
            return false;
        }
        return true;
    }

    private static String text(Answer answer) {
        try {
            return String.valueOf(answer.give());
        } catch (RuntimeException e) {
            return e.getClass().getSimpleName();
        }
    }

    private static long bit(boolean b) {
        return b ? 1 : 0;
    }

    private boolean equal(String what, long want, long got) {
        if (want != got) {
            Check.same(what, String.valueOf(want), String.valueOf(got));
        }
        return want == got;
    }

    private boolean sameWhole() {
        boolean same = equal("workflows", y.workflows(), x.workflows()) && equal("clock", y.clock(), x.clock());
        for (int i = 0; i < 4 && same; i++) {
            same = equal("has " + i, y.has(i), x.has(i));
        }
        for (int i = 0; i < 2 && same; i++) {
            same = equal("ready " + i, y.ready(i), x.ready(i));
            for (int j = 0; j < 3 && same; j++) {
                same = equal("taken", y.taken(i, j), x.taken(i, j));
            }
        }
        for (int w = 0; w < y.workflows() && same; w++) {
            same = equal("runs " + w, y.runs(w), x.runs(w)) && equal("register " + w, y.register(w), x.register(w))
                    && equal("place " + w, y.place(w), x.place(w)) && equal("parent " + w, y.parent(w), x.parent(w))
                    && equal("isDue " + w, bit(y.isDue(w)), bit(x.isDue(w)))
                    && equal("property", y.property(w, 0), x.property(w, 0))
                    && equal("property", y.property(w, 1), x.property(w, 1));
            for (int r = 1; r <= y.runs(w) && same; r++) {
                same = equal("state " + w + " " + r, y.state(w, r), x.state(w, r))
                        && equal("events " + w + " " + r, y.events(w, r), x.events(w, r));
                for (int e = 0; e < y.events(w, r) && same; e++) {
                    String what = "event " + w + " " + r + " " + e;
                    same = equal(what, y.eventKind(w, r, e), x.eventKind(w, r, e))
                            && equal(what, y.eventNumber(w, r, e, true), x.eventNumber(w, r, e, true))
                            && equal(what, y.eventNumber(w, r, e, false), x.eventNumber(w, r, e, false));
                }
            }
        }
        return same;
    }

    // ---- programs

    private static final int[] LOW_A = {0, 1, 0, 0, 1, -99, -99, -99, -99, 0, 0, 1, 0, 1, 0, 0};
    private static final int[] HIGH_A = {5, 50, 2, 2, 3, 99, 99, 99, 99, 5, 3, 11, 1, 9, 0, 0};

    private int[] step(int kind) {
        int a = any(LOW_A[kind], HIGH_A[kind]);
        int b = 0;
        switch (kind) {
            case Flowkeeper.ACT, Flowkeeper.UNDO -> b = any(0, 1);
            case Flowkeeper.TIMER -> a = odds(80) ? any(1, 6) : a;
            case Flowkeeper.WAIT -> b = odds(50) ? 0 : any(1, 12);
            case Flowkeeper.CHILD -> b = any(0, 2);
            case Flowkeeper.SKIP, Flowkeeper.BACK -> {
                a = odds(70) ? any(-10, 60) : a;
                b = any(1, odds(80) ? 4 : 11);
            }
            case Flowkeeper.ADD -> a = odds(60) ? any(1, 9) : a;
            case Flowkeeper.MARK -> b = any(1, odds(85) ? 3 : 11);
            case Flowkeeper.GUARD -> a = odds(70) ? any(1, 4) : a;
            case Flowkeeper.TELL -> b = odds(40) ? 100 : any(-99, 99);
            default -> { }
        }
        return new int[] {kind, a, b};
    }

    private int kind() {
        int[][] often = {
            {0, 0, 0, 1, 2, 2, 3, 4, 5, 6, 7, 8, 9, 10, 11, 12, 13, 14, 15},
            {2, 2, 2, 12, 12, 12, 12, 6, 6, 9, 8, 8, 11},
            {3, 3, 3, 4, 4, 0, 2, 1, 9, 11},
            {14, 14, 2, 2, 2, 11, 11, 0, 8, 5},
            {0, 0, 0, 4, 4, 9, 9, 9, 13, 11, 5, 6},
            {10, 10, 10, 0, 1, 2, 12, 8, 6, 5},
            {11, 11, 11, 2, 2, 1, 4, 0, 6, 8, 9, 3},
            {6, 6, 8, 8, 7, 9, 12, 2, 0, 5}};
        int[] list = often[odds(25) ? 0 : flavour];
        return list[chance.nextInt(list.length)];
    }

    private List<int[]> program() {
        List<int[]> steps = new ArrayList<>();
        int size = 1 + chance.nextInt(12);
        while (steps.size() < size) {
            int kind = kind();
            int[] s = step(kind);
            steps.add(s);
            for (int i = 0; kind == Flowkeeper.SIDE && i < s[1]; i++) {
                steps.add(step(chance.nextInt(4)));
            }
        }
        return steps;
    }

    private void programs() {
        for (int type = 0; type < 3; type++) {
            int versions = 1 + chance.nextInt(4);
            List<int[]> steps = program();
            for (int v = 0; v < versions && calls.size() < 200; v++) {
                tell(type, steps);
                steps = odds(60) ? changed(steps) : program();
            }
        }
    }

    /** The same program with one change, so that histories of the one may fit the other. */
    private List<int[]> changed(List<int[]> steps) {
        List<int[]> other = new ArrayList<>(steps);
        int at = chance.nextInt(other.size() + 1);
        if (odds(70)) {
            int[] mark = {Flowkeeper.MARK, chance.nextInt(4), 1 + chance.nextInt(2)};
            other.add(at, mark);
            for (int i = 0; i < mark[2]; i++) {
                other.add(at + 1, step(odds(50) ? Flowkeeper.ACT : Flowkeeper.TELL));
            }
        } else if (at < other.size()) {
            other.set(at, step(other.get(at)[0]));
        }
        return other;
    }

    private void tell(int type, List<int[]> steps) {
        for (int[] s : steps) {
            tellStep(type, s);
        }
        int t = type;
        if (!same("release(" + type + ")", () -> x.release(t), () -> y.release(t))) {
            System.exit(1);
        }
        if (calls.get(calls.size() - 1).endsWith("IllegalStateException")) {
            same("forget(" + type + ")", () -> x.forget(t), () -> y.forget(t));
        }
    }

    private boolean tellStep(int type, int[] s) {
        String call = "step(" + type + ", " + s[0] + ", " + s[1] + ", " + s[2] + ")";
        return same(call, () -> x.step(type, s[0], s[1], s[2]), () -> y.step(type, s[0], s[1], s[2]));
    }

    // ---- other calls

    private int someFlow() {
        return any(0, Math.max(0, y.workflows() - 1));
    }

    private boolean call() {
        int w = someFlow();
        int worker = any(0, 3);
        int queue = any(0, 1);
        int which = chance.nextInt(flavour == 1 ? 160 : 100);
        if (which < 30) {
            return decide(w);
        } else if (which < 36) {
            return start();
        } else if (which < 48 || which >= 100) {
            return signal(w);
        } else if (which < 51) {
            return odds(60) ? true : same("cancel(" + w + ")", () -> bit(x.cancel(w)), () -> bit(y.cancel(w)));
        } else if (which < 64) {
            return same("take(" + worker + ", " + queue + ")", () -> x.take(worker, queue),
                    () -> y.take(worker, queue));
        } else if (which < 73) {
            int result = any(-99, 99);
            return same("end(" + worker + ", " + result + ")", () -> bit(x.end(worker, result)),
                    () -> bit(y.end(worker, result)));
        } else if (which < 77) {
            return same("fail(" + worker + ")", () -> x.fail(worker), () -> y.fail(worker));
        } else if (which < 86) {
            int ticks = odds(80) ? any(1, 4) : any(1, 50);
            return same("tick(" + ticks + ")", () -> x.tick(ticks), () -> y.tick(ticks));
        }
        return seldom(which, w, worker, queue);
    }

    private boolean seldom(int which, int w, int worker, int queue) {
        int property = any(0, 1);
        int low = any(-99, 99);
        int high = odds(80) ? low + chance.nextInt(60) : any(-99, 99);
        int rate = any(1, 9);
        int type = any(0, 2);
        int run = any(1, 2);
        int event = any(0, 5);
        boolean yes = odds(60);
        switch (which) {
            case 86:
                return same("beat(" + worker + ")", () -> x.beat(worker), () -> y.beat(worker));
            case 87:
                return same("run(" + worker + ", " + yes + ")", () -> bit(x.run(worker, yes)),
                        () -> bit(y.run(worker, yes)));
            case 88:
                return same("setRate(" + queue + ", " + rate + ")", () -> x.setRate(queue, rate),
                        () -> y.setRate(queue, rate));
            case 89:
                return same("found(" + property + ", " + low + ", " + high + ")", () -> x.found(property, low, high),
                        () -> y.found(property, low, high));
            case 90:
            case 91:
            case 92:
            case 93:
                return registerAnew(w);
            case 94:
                return same("eventKind(" + w + ", " + run + ", " + event + ")", () -> x.eventKind(w, run, event),
                        () -> y.eventKind(w, run, event))
                        && same("eventNumber", () -> x.eventNumber(w, run, event, yes),
                        () -> y.eventNumber(w, run, event, yes));
            case 95:
                return same("state(" + w + ", " + run + ")", () -> x.state(w, run), () -> y.state(w, run))
                        && same("events(" + w + ", " + run + ")", () -> x.events(w, run), () -> y.events(w, run));
            case 96:
                return same("property", () -> x.property(w, property), () -> y.property(w, property))
                        && same("place(" + w + ")", () -> x.place(w), () -> y.place(w));
            case 97:
                return same("register(" + w + ")", () -> x.register(w), () -> y.register(w))
                        && same("runs(" + w + ")", () -> x.runs(w), () -> y.runs(w))
                        && same("parent(" + w + ")", () -> x.parent(w), () -> y.parent(w));
            case 98:
                return same("taken", () -> x.taken(queue, type), () -> y.taken(queue, type))
                        && same("ready", () -> x.ready(queue), () -> y.ready(queue))
                        && same("has", () -> x.has(worker), () -> y.has(worker));
            default:
                return same("versions(" + type + ")", () -> x.versions(type), () -> y.versions(type))
                        && tellStep(type, step(kind()))
                        && same("forget(" + type + ")", () -> x.forget(type), () -> y.forget(type));
        }
    }

    private boolean start() {
        if (flavour == 1 && odds(70)) {
            return true;
        }
        int type = any(0, 2);
        int tenant = any(0, 2);
        int value = any(-99, 99);
        return same("start(" + type + ", " + tenant + ", " + value + ")", () -> x.start(type, tenant, value),
                () -> y.start(type, tenant, value));
    }

    private boolean signal(int w) {
        int which = any(0, 2);
        int value = any(-99, 99);
        int times = flavour == 1 && odds(10) ? 20 : 1;
        for (int i = 0; i < times; i++) {
            if (!same("signal(" + w + ", " + which + ", " + value + ")", () -> bit(x.signal(w, which, value)),
                    () -> bit(y.signal(w, which, value)))) {
                return false;
            }
        }
        return true;
    }

    /** Mostly decides with the version of the last decision, so that runs get on. */
    private int version(int w) {
        int version = 1;
        if (w >= 0 && w < y.workflows() && odds(90)) {
            int run = y.runs(w);
            for (int i = 0; i < y.events(w, run); i++) {
                if (y.eventKind(w, run, i) == Flowkeeper.DECIDED) {
                    version = y.eventNumber(w, run, i, true);
                }
            }
            return odds(85) ? version : any(1, 4);
        }
        return any(1, 4);
    }

    private boolean decide(int w) {
        int version = version(w);
        boolean same = same("decide(" + w + ", " + version + ")", () -> x.decide(w, version),
                () -> y.decide(w, version));
        if (calls.get(calls.size() - 1).endsWith("-> -2")) {
            seen("MISMATCH");
        }
        return same;
    }

    private boolean registerAnew(int w) {
        int version = version(w);
        boolean same = same("registerAnew(" + w + ", " + version + ")", () -> x.registerAnew(w, version),
                () -> y.registerAnew(w, version));
        if (calls.get(calls.size() - 1).endsWith("-> -2000")) {
            seen("MISMATCH anew");
        }
        return same;
    }
}
