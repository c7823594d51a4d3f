/** All that can be asked of an object, as one text: what is the same ahead of a call and behind it has not changed. */
final class Look {
    private Look() {
    }

    private interface Answer {
        Object give();
    }

    /** What can be asked without changing anything for good. */
    static String at(Flowkeeper x) {
        StringBuilder text = new StringBuilder();
        text.append("clock ").append(x.clock()).append(", workflows ").append(x.workflows());
        for (int i = 0; i < 3; i++) {
            text.append(", versions ").append(x.versions(i));
        }
        for (int i = 0; i < 4; i++) {
            text.append(", has ").append(x.has(i));
        }
        for (int queue = 0; queue < 2; queue++) {
            int rate = x.setRate(queue, 9);
            x.setRate(queue, rate);
            text.append(", rate ").append(rate).append(", ready ").append(x.ready(queue)).append(", taken");
            for (int tenant = 0; tenant < 3; tenant++) {
                text.append(' ').append(x.taken(queue, tenant));
            }
        }
        for (int w = 0; w < x.workflows(); w++) {
            workflow(text, x, w);
        }
        return text.toString();
    }

    private static void workflow(StringBuilder text, Flowkeeper x, int w) {
        text.append("\nworkflow ").append(w).append(": parent ").append(x.parent(w)).append(", register ")
                .append(x.register(w)).append(", place ").append(x.place(w)).append(", due ").append(x.isDue(w))
                .append(", properties ").append(x.property(w, 0)).append(' ').append(x.property(w, 1));
        for (int run = 1; run <= x.runs(w); run++) {
            text.append("\n  run ").append(run).append(": ").append(x.state(w, run)).append(' ')
                    .append(Tale.history(x, w, run));
        }
    }

    /** What at() does not tell shows itself in what comes of further calls; the object is used up then. */
    static String deep(Flowkeeper x) {
        StringBuilder text = new StringBuilder(at(x));
        for (int worker = 0; worker < 4; worker++) {
            int w = worker;
            add(text, "take", () -> x.take(w, 0));
            add(text, "take", () -> x.take(w, 1));
            add(text, "beat", () -> x.beat(w));
        }
        for (int type = 0; type < 3; type++) {
            int t = type;
            add(text, "release", () -> x.release(t));
            add(text, "forget", () -> x.forget(t));
        }
        for (int round = 0; round < 3; round++) {
            x.tick(7);
            for (int w = 0; w < x.workflows(); w++) {
                int n = w;
                add(text, "decide", () -> x.decide(n, 1));
                add(text, "signal", () -> x.signal(n, 0, 1));
            }
            text.append('\n').append(at(x));
        }
        return text.toString();
    }

    private static void add(StringBuilder text, String what, Answer answer) {
        String got;
        try {
            got = String.valueOf(answer.give());
        } catch (RuntimeException e) {
            got = e.getClass().getSimpleName();
        }
        text.append(", ").append(what).append(' ').append(got);
    }
}
