/** Promises 1 to 5: a new object, step, forget, release, versions. */
final class ProgramsTest {
    /** Least and greatest a, least and greatest b, by the kind of the step. */
    private static final int[][] RANGES = {
        {0, 5, 0, 1}, {1, 50, 0, 0}, {0, 2, 0, 50}, {0, 2, 0, 2}, {1, 3, 0, 0}, {-99, 99, 1, 11}, {-99, 99, 1, 11},
        {-99, 99, 0, 0}, {-99, 99, 0, 0}, {0, 5, 0, 1}, {0, 3, 1, 11}, {1, 11, 0, 0}, {0, 1, -99, 100}, {1, 9, 0, 0},
        {0, 0, 0, 0}, {0, 0, 0, 0}};

    public static void main(String[] args) {
        newObject();
        ranges();
        order();
        fullVersion();
        forgets();
        wholeVersions();
        fourVersions();
        Check.done("ProgramsTest");
    }

    private static void newObject() {
        Flowkeeper x = new Flowkeeper();
        Check.due("workflows", 0, x::workflows);
        Check.due("clock", 0, x::clock);
        for (int i = 0; i < 3; i++) {
            int n = i;
            Check.due("versions", 0, () -> x.versions(n));
            Check.due("forget", 0, () -> x.forget(n));
            Check.due("taken", 0, () -> x.taken(0, n) + x.taken(1, n));
        }
        for (int i = 0; i < 4; i++) {
            int n = i;
            Check.due("has", -1, () -> x.has(n));
            Check.due("take of a worker that runs", -1, () -> x.take(n, 0));
        }
        for (int i = 0; i < 2; i++) {
            int n = i;
            Check.due("ready", 0, () -> x.ready(n));
            Check.due("the first rate", 9, () -> x.setRate(n, 9));
        }
    }

    private static void ranges() {
        for (int kind = 0; kind < 16; kind++) {
            int[] range = RANGES[kind];
            int[] as = {range[0] - 1, range[0], range[1], range[1] + 1, Integer.MIN_VALUE, Integer.MAX_VALUE};
            int[] bs = {range[2] - 1, range[2], range[3], range[3] + 1, Integer.MIN_VALUE, Integer.MAX_VALUE};
            for (int a : as) {
                for (int b : bs) {
                    Flowkeeper x = new Flowkeeper();
                    int k = kind;
                    String what = "step(1, " + kind + ", " + a + ", " + b + ")";
                    if (a >= range[0] && a <= range[1] && b >= range[2] && b <= range[3]) {
                        Check.due(what, 1, () -> x.step(1, k, a, b));
                    } else {
                        Check.argument(what, () -> x.step(1, k, a, b));
                        Check.due("steps behind " + what, 0, () -> x.forget(1));
                    }
                }
            }
        }
        Flowkeeper x = new Flowkeeper();
        Check.argument("kind -1", () -> x.step(0, -1, 0, 0));
        Check.argument("kind 16", () -> x.step(0, 16, 0, 0));
        Check.argument("kind least", () -> x.step(0, Integer.MIN_VALUE, 0, 0));
        Check.argument("kind most", () -> x.step(0, Integer.MAX_VALUE, 0, 0));
    }

    private static void order() {
        Flowkeeper x = new Flowkeeper();
        for (int type : new int[] {-1, 3, Integer.MIN_VALUE, Integer.MAX_VALUE}) {
            Check.outside("step: type ahead of kind", () -> x.step(type, 99, 0, 0));
            Check.outside("forget", () -> x.forget(type));
            Check.outside("release", () -> x.release(type));
            Check.outside("versions", () -> x.versions(type));
        }
        for (int i = 0; i < 12; i++) {
            x.step(2, Flowkeeper.SET, 1, 0);
        }
        Check.argument("step: range ahead of state", () -> x.step(2, Flowkeeper.SET, 100, 0));
    }

    private static void fullVersion() {
        Flowkeeper x = new Flowkeeper();
        for (int i = 1; i <= 12; i++) {
            int n = i;
            Check.due("step " + i, n, () -> x.step(0, Flowkeeper.ACT, 5, 1));
        }
        Check.state("the 13th step", () -> x.step(0, Flowkeeper.ACT, 5, 1));
        Check.due("another type has steps of its own", 1, () -> x.step(1, Flowkeeper.ACT, 5, 1));
        Check.due("release of 12 steps", 1, () -> x.release(0));
        Check.due("versions", 1, () -> x.versions(0));
        Check.due("versions of another type", 0, () -> x.versions(1));
    }

    private static void forgets() {
        Flowkeeper x = new Flowkeeper();
        Tale.tell(x, 0, Flowkeeper.SET, 1, 0, Flowkeeper.SIDE, 3, 0);
        Tale.tell(x, 1, Flowkeeper.SET, 1, 0);
        Check.state("a SIDE that is not followed", () -> x.release(0));
        Check.due("release that threw keeps the steps", 2, () -> x.forget(0));
        Check.due("forget again", 0, () -> x.forget(0));
        Check.due("forget leaves other types", 1, () -> x.forget(1));
        Check.state("release without steps", () -> x.release(0));
        Check.due("a step behind forget is the first", 1, () -> x.step(0, Flowkeeper.END, 0, 0));
        Check.due("release", 1, () -> x.release(0));
        Check.due("forget leaves released ones", 0, () -> x.forget(0));
        Check.due("versions", 1, () -> x.versions(0));
    }

    private static void whole(boolean want, int... steps) {
        Flowkeeper x = new Flowkeeper();
        Tale.tell(x, 0, steps);
        StringBuilder text = new StringBuilder("release of");
        for (int step : steps) {
            text.append(' ').append(step);
        }
        if (want) {
            Check.due(text.toString(), 1, () -> x.release(0));
        } else {
            Check.state(text.toString(), () -> x.release(0));
            Check.due("versions", 0, () -> x.versions(0));
        }
    }

    private static void wholeVersions() {
        whole(true, Flowkeeper.SKIP, 0, 1, Flowkeeper.SET, 0, 0);
        whole(false, Flowkeeper.SKIP, 0, 1);
        whole(false, Flowkeeper.SKIP, 0, 2, Flowkeeper.SET, 0, 0);
        whole(true, Flowkeeper.MARK, 0, 1, Flowkeeper.SET, 0, 0);
        whole(false, Flowkeeper.MARK, 0, 1);
        whole(false, Flowkeeper.SET, 0, 0, Flowkeeper.MARK, 0, 2, Flowkeeper.SET, 0, 0);
        whole(true, Flowkeeper.SET, 0, 0, Flowkeeper.BACK, 0, 1);
        whole(false, Flowkeeper.BACK, 0, 1);
        whole(false, Flowkeeper.SET, 0, 0, Flowkeeper.BACK, 0, 2);
        whole(false, Flowkeeper.SIDE, 1, 0);
        for (int kind = 0; kind < 16; kind++) {
            int a = RANGES[kind][1];
            int b = kind == Flowkeeper.SKIP || kind == Flowkeeper.BACK || kind == Flowkeeper.MARK ? 1 : RANGES[kind][3];
            whole(kind <= Flowkeeper.CHILD, Flowkeeper.SIDE, 1, 0, kind, kind == Flowkeeper.SIDE ? 1 : a, b,
                    Flowkeeper.ACT, 0, 0);
            whole(kind <= Flowkeeper.CHILD, Flowkeeper.SIDE, 3, 0, Flowkeeper.ACT, 0, 0, Flowkeeper.WAIT, 0, 0, kind,
                    kind == Flowkeeper.SIDE ? 1 : a, b, Flowkeeper.ACT, 0, 0);
        }
        whole(false, Flowkeeper.SIDE, 3, 0, Flowkeeper.ACT, 0, 0, Flowkeeper.ACT, 0, 0);
        whole(true, Flowkeeper.SIDE, 2, 0, Flowkeeper.ACT, 0, 0, Flowkeeper.ACT, 0, 0);
        whole(true, Flowkeeper.GUARD, 11, 0);
        whole(true, Flowkeeper.SKIP, 0, 11, 7, 0, 0, 7, 0, 0, 7, 0, 0, 7, 0, 0, 7, 0, 0, 7, 0, 0, 7, 0, 0, 7, 0, 0,
                7, 0, 0, 7, 0, 0, 7, 0, 0);
        whole(true, 7, 0, 0, 7, 0, 0, 7, 0, 0, 7, 0, 0, 7, 0, 0, 7, 0, 0, 7, 0, 0, 7, 0, 0, 7, 0, 0, 7, 0, 0, 7, 0, 0,
                Flowkeeper.BACK, 0, 11);
    }

    private static void fourVersions() {
        Flowkeeper x = new Flowkeeper();
        for (int i = 1; i <= 4; i++) {
            int n = i;
            Check.due("versions", n - 1, () -> x.versions(2));
            Check.due("step", 1, () -> x.step(2, Flowkeeper.SET, n, 0));
            Check.due("release " + i, n, () -> x.release(2));
        }
        Check.state("a step of a fifth version", () -> x.step(2, Flowkeeper.SET, 5, 0));
        Check.argument("range ahead of state", () -> x.step(2, Flowkeeper.SET, 100, 0));
        Check.state("a fifth release", () -> x.release(2));
        Check.due("versions", 4, () -> x.versions(2));
        Check.due("forget", 0, () -> x.forget(2));
        x.start(2, 0, 0);
        for (int i = 1; i <= 4; i++) {
            int n = i;
            Flowkeeper y = x;
            int w = x.start(2, 0, 0);
            Check.due("decide with version " + n, 1, () -> y.decide(w, n));
            Check.due("each version keeps its own steps", n, () -> y.register(w));
        }
    }
}
