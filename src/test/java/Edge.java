import java.util.ArrayList;
import java.util.List;

/** The sentences of the document: what is checked behind a quote, up to the next one, is the test of that sentence. */
final class Edge {
    /** The promise whose words these are; 0: they stand under 'Terms'. */
    record Said(int promise, String words) { }

    /** A call with the one argument that matters. */
    interface Asked {
        void with(int value);
    }

    private static final List<Said> SAID = new ArrayList<>();
    private static int checkedBefore;

    private Edge() {
    }

    static void term(String words) {
        says(0, words);
    }

    static void says(int promise, String words) {
        close();
        SAID.add(new Said(promise, words));
        checkedBefore = Check.count();
        Check.about((promise == 0 ? "Terms: " : "Promise " + promise + ": ") + words);
    }

    /** The sentences quoted so far, each of which must have been followed by a check. */
    static List<Said> close() {
        if (!SAID.isEmpty() && Check.count() == checkedBefore) {
            Check.same("answers that were checked", "some", "none");
        }
        Check.about("");
        return SAID;
    }

    /** The first values that are too small and too large, and the ones that are farthest off. */
    static int[] beyond(int least, int most) {
        return new int[] {least - 1, most + 1, Integer.MIN_VALUE, Integer.MAX_VALUE};
    }

    static void allows(String what, int least, int most, Asked call) {
        for (int value = least; value <= most; value++) {
            int v = value;
            Check.due(what + " " + v, 0, () -> {
                call.with(v);
                return 0;
            });
        }
    }

    static void outside(String what, int least, int most, Asked call) {
        for (int value : beyond(least, most)) {
            Check.outside(what + " " + value, () -> call.with(value));
        }
    }

    static void argument(String what, int least, int most, Asked call) {
        for (int value : beyond(least, most)) {
            Check.argument(what + " " + value, () -> call.with(value));
        }
    }

    /** The same step so many times. */
    static int[] times(int count, int kind, int a, int b) {
        int[] steps = new int[3 * count];
        for (int i = 0; i < count; i++) {
            steps[3 * i] = kind;
            steps[3 * i + 1] = a;
            steps[3 * i + 2] = b;
        }
        return steps;
    }

    static int[] steps(int... steps) {
        return steps;
    }

    static int[] join(int[]... parts) {
        int size = 0;
        for (int[] part : parts) {
            size += part.length;
        }
        int[] all = new int[size];
        int at = 0;
        for (int[] part : parts) {
            System.arraycopy(part, 0, all, at, part.length);
            at += part.length;
        }
        return all;
    }

    /** Sends signals for which nothing waits, until the latest run's history has so many events. */
    static void fill(Flowkeeper x, int workflow, int which, int events) {
        int run = x.runs(workflow);
        while (x.events(workflow, run) < events) {
            Tale.signals(x, workflow, which, 0);
        }
    }
}
