/** The sentences under 'Programs', and of the promises 1 to 5. */
final class ProgramEdges implements Words {
    private ProgramEdges() {
    }

    static void all() {
        types();
        versions();
        steps();
        released();
        acts();
        timers();
        waits();
        children();
        sides();
        skips();
        backs();
        setsAndAdds();
        undos();
        marks();
        guards();
        tells();
        ends();
        leadsSomewhere();
        newObject();
        step();
        forget();
        release();
        countOfVersions();
    }

    private static void types() {
        Edge.term("There are the types 0 to 2.");
        Flowkeeper x = new Flowkeeper();
        Edge.allows("step of the type", 0, 2, type -> x.step(type, END, 0, 0));
        Edge.allows("release of the type", 0, 2, x::release);
        Edge.allows("start of the type", 0, 2, type -> x.start(type, 0, 0));
        Edge.outside("step of the type", 0, 2, type -> x.step(type, END, 0, 0));
        Edge.outside("forget of the type", 0, 2, x::forget);
        Edge.outside("release of the type", 0, 2, x::release);
        Edge.outside("versions of the type", 0, 2, x::versions);
        Edge.outside("start of the type", 0, 2, type -> x.start(type, 0, 0));
    }

    private static void versions() {
        Edge.term("A type has versions, numbered from 1, at most 4;");
        Flowkeeper x = new Flowkeeper();
        for (int i = 1; i <= 4; i++) {
            int n = i;
            Check.due("a step of the version " + i, 1, () -> x.step(0, SET, n, 0));
            Check.due("its number", n, () -> x.release(0));
        }
        Check.state("a step of a fifth version", () -> x.step(0, SET, 5, 0));
        Check.state("a fifth version", () -> x.release(0));
        Check.due("versions", 4, () -> x.versions(0));
        Check.due("another type has its own", 1, () -> x.step(1, SET, 5, 0));
        x.start(0, 0, 0);
        Edge.outside("decide with version", 1, 4, version -> x.decide(0, version));
        Check.due("decide with the last one", 1, () -> x.decide(0, 4));
        Check.due("which is just that", 4, () -> x.register(0));
        x.start(0, 0, 0);
        Check.due("decide with the first one", 1, () -> x.decide(1, 1));
        Check.due("which is just that", 1, () -> x.register(1));
    }

    private static void steps() {
        Edge.term("a version has 1 to 12 steps, numbered from 0.");
        Flowkeeper x = new Flowkeeper();
        Check.state("a version of no steps", () -> x.release(0));
        Tale.tell(x, 0, ACT, 0, 0);
        Check.due("a version of one step", 1, () -> x.release(0));
        for (int i = 0; i < 11; i++) {
            x.step(0, SET, i, 0);
        }
        Check.due("the twelfth step", 12, () -> x.step(0, ACT, 0, 0));
        Check.state("a thirteenth one", () -> x.step(0, ACT, 0, 0));
        Check.due("a version of twelve steps", 2, () -> x.release(0));
        x.start(0, 0, 0);
        x.decide(0, 1);
        Check.due("the first step", 0, () -> x.place(0));
        x.start(0, 0, 0);
        x.decide(1, 2);
        Check.due("the twelfth step", 11, () -> x.place(1));
    }

    private static void released() {
        Edge.term("A version is told step by step, and released then; only released ones can be used.");
        Flowkeeper x = new Flowkeeper();
        x.start(0, 0, 7);
        Check.outside("nothing is told", () -> x.decide(0, 1));
        Tale.tell(x, 0, TELL, 0, 1);
        Tale.tell(x, 1, TELL, 0, 9);
        Tale.tell(x, 0, TELL, 1, 2);
        Check.outside("it is told, not released", () -> x.decide(0, 1));
        Check.outside("nor can it be played", () -> x.registerAnew(0, 1));
        Check.due("release", 1, () -> x.release(0));
        Tale.tell(x, 0, TELL, 0, 3);
        Tale.decides(x, 0, 3);
        Tale.all(x, 0, "STARTED 7 0, DECIDED 1 0, TOLD 0 1, TOLD 1 2, OVER 21 7");
        Check.outside("the second one is told, not released", () -> x.registerAnew(0, 2));
    }

    /** The numbers that a step of this kind can have, and those that it can't. */
    private static void ranges(int kind, int leastA, int mostA, int leastB, int mostB) {
        for (int b : new int[] {leastB, mostB}) {
            for (int a : new int[] {leastA, mostA}) {
                Flowkeeper x = new Flowkeeper();
                Check.due("step " + kind + " " + a + " " + b, 1, () -> x.step(0, kind, a, b));
            }
        }
        Flowkeeper y = new Flowkeeper();
        Edge.argument("a of " + kind, leastA, mostA, a -> y.step(0, kind, a, leastB));
        Edge.argument("a of " + kind, leastA, mostA, a -> y.step(0, kind, a, mostB));
        Edge.argument("b of " + kind, leastB, mostB, b -> y.step(0, kind, leastA, b));
        Edge.argument("b of " + kind, leastB, mostB, b -> y.step(0, kind, mostA, b));
        Check.due("none of them was told", 0, () -> y.forget(0));
    }

    private static void acts() {
        Edge.term("- ACT: an activity of the kind a (0 to 5) on the queue b (0 or 1).");
        ranges(ACT, 0, 5, 0, 1);
        Flowkeeper x = Tale.started(0, SIDE, 2, 0, ACT, 0, 1, ACT, 5, 0);
        Tale.decides(x, 0, 2);
        Tale.behind(x, 0, 2, "ACTIVITY 0 1, ACTIVITY 5 0");
        Check.due("on the queue 0", 101, () -> x.take(0, 0));
        Check.due("on the queue 1", 100, () -> x.take(1, 1));
    }

    private static void timers() {
        Edge.term("- TIMER: a ticks (1 to 50); b is 0.");
        ranges(TIMER, 1, 50, 0, 0);
        Flowkeeper x = Tale.started(0, SIDE, 2, 0, TIMER, 1, 0, TIMER, 50, 0);
        x.decide(0, 1);
        x.tick(1);
        Tale.behind(x, 0, 4, "FIRED 0 0");
        x.tick(48);
        Check.due("events behind 49 ticks", 5, () -> x.events(0, 1));
        x.tick(1);
        Tale.behind(x, 0, 5, "FIRED 1 0");
    }

    private static void waits() {
        Edge.term("- WAIT: the signal a (0 to 2), for at most b ticks (1 to 50), or without end (0).");
        ranges(WAIT, 0, 2, 0, 50);
        for (int ticks : new int[] {1, 50}) {
            Flowkeeper x = Tale.started(5, WAIT, 2, ticks);
            Tale.decides(x, 0, 1);
            if (ticks > 1) {
                x.tick(ticks - 1);
            }
            Check.due("it waits still", 3, () -> x.events(0, 1));
            x.tick(1);
            Tale.behind(x, 0, 2, "TIMER_SET " + ticks + " 0, FIRED 0 0");
        }
        Flowkeeper y = Tale.started(5, WAIT, 0, 0);
        Tale.decides(y, 0, 0);
        for (int i = 0; i < 10; i++) {
            y.tick(50);
        }
        Tale.all(y, 0, "STARTED 5 0, DECIDED 1 0");
        Tale.signals(y, 0, 0, 9);
        Tale.decides(y, 0, 1);
        Tale.stands(y, 0, ENDED, 9, NONE);
    }

    private static void children() {
        Edge.term("- CHILD: a workflow of the type a; b tells what happens to it when its parent ends: it goes on (0), "
                + "is asked to cancel (1), or is ended (2).");
        ranges(CHILD, 0, 2, 0, 2);
        Flowkeeper x = Tale.started(5, SIDE, 3, 0, CHILD, 2, 0, CHILD, 2, 1, CHILD, 2, 2);
        x.decide(0, 1);
        Tale.cancels(x, 0);
        Tale.decides(x, 0, 1);
        Tale.all(x, 1, "STARTED 5 0");
        Tale.stands(x, 1, RUNNING, 0, NONE);
        Tale.all(x, 2, "STARTED 5 0, CANCEL 0 0");
        Tale.stands(x, 2, RUNNING, 0, NONE);
        Tale.all(x, 3, "STARTED 5 0");
        Tale.stands(x, 3, STOPPED, 0, NONE);
    }

    private static void sides() {
        Edge.term("- SIDE: the next a steps (1 to 3), each of them ACT, TIMER, WAIT or CHILD, are begun together; "
                + "b is 0.");
        ranges(SIDE, 1, 3, 0, 0);
        Flowkeeper x = Tale.started(5, SIDE, 1, 0, ACT, 0, 0, ACT, 1, 0, ACT, 2, 0);
        Tale.decides(x, 0, 1);
        Tale.behind(x, 0, 2, "ACTIVITY 0 0");
        Flowkeeper y = Tale.started(5, SIDE, 3, 0, CHILD, 1, 0, WAIT, 0, 2, TIMER, 3, 0, ACT, 2, 0);
        Tale.decides(y, 0, 3);
        Tale.behind(y, 0, 2, "CHILD_MADE 1 0, TIMER_SET 2 0, TIMER_SET 3 0");
        for (int kind = SIDE; kind <= END; kind++) {
            Flowkeeper z = new Flowkeeper();
            int a = kind == SIDE || kind == GUARD || kind == FAIL ? 1 : 0;
            int b = kind == SKIP || kind == BACK || kind == MARK ? 1 : 0;
            Tale.tell(z, 0, SIDE, 1, 0, kind, a, b, ACT, 0, 0);
            Check.state("a SIDE of the kind " + kind, () -> z.release(0));
        }
    }

    /** How many TOLDs a SKIP of a register leaves of eleven. */
    private static void skipped(int register, int below, int steps, int want) {
        Flowkeeper x = Tale.started(register, Edge.join(Edge.steps(SKIP, below, steps), Edge.times(11, TELL, 0, 1)));
        Tale.decides(x, 0, want + 1);
    }

    private static void skips() {
        Edge.term("- SKIP: if the register is below a (-99 to 99), the next b steps (1 to 11) are left out.");
        ranges(SKIP, -99, 99, 1, 11);
        skipped(6, 7, 1, 10);
        skipped(7, 7, 1, 11);
        skipped(8, 7, 1, 11);
        skipped(6, 7, 11, 0);
        skipped(7, 7, 11, 11);
        skipped(6, 7, 10, 1);
        skipped(-99, -99, 11, 11);
        skipped(-99, -98, 11, 0);
        skipped(98, 99, 11, 0);
        skipped(99, 99, 11, 11);
    }

    private static void backs() {
        Edge.term("- BACK: if the register is below a (-99 to 99), it goes on b steps (1 to 11) ahead of this one.");
        ranges(BACK, -99, 99, 1, 11);
        Flowkeeper one = Tale.started(5, TELL, 0, 1, ADD, 1, 0, BACK, 7, 1);
        Tale.decides(one, 0, 2);
        Tale.behind(one, 0, 2, "TOLD 0 1, OVER 21 7");
        Flowkeeper eleven = Tale.started(5, Edge.join(Edge.steps(TELL, 0, 100, ADD, 1, 0), Edge.times(9, ADD, 0, 0),
                Edge.steps(BACK, 7, 11)));
        Tale.decides(eleven, 0, 3);
        Tale.behind(eleven, 0, 2, "TOLD 0 5, TOLD 0 6, OVER 21 7");
        Flowkeeper least = Tale.started(-99, TELL, 0, 100, BACK, -99, 1);
        Tale.decides(least, 0, 2);
        Flowkeeper most = Tale.started(98, TELL, 0, 100, ADD, 1, 0, BACK, 99, 2);
        Tale.decides(most, 0, 2);
        Flowkeeper below = Tale.started(97, TELL, 0, 100, ADD, 1, 0, BACK, 99, 2);
        Tale.decides(below, 0, 3);
    }

    private static void setsAndAdds() {
        Edge.term("- SET: the register becomes a (-99 to 99); b is 0.");
        ranges(SET, -99, 99, 0, 0);
        for (int a : new int[] {-99, 0, 99}) {
            Flowkeeper x = Tale.started(5, SET, a, 0);
            Tale.decides(x, 0, 1);
            Tale.stands(x, 0, ENDED, a, NONE);
        }
        Edge.term("ADD: it becomes a more (-99 to 99), held between -999 and 999; b is 0.");
        ranges(ADD, -99, 99, 0, 0);
        for (int sign : new int[] {1, -1}) {
            Flowkeeper x = Tale.started(99 * sign, Edge.join(Edge.times(9, ADD, 99 * sign, 0),
                    Edge.steps(ADD, 9 * sign, 0, TELL, 0, 100)));
            Tale.decides(x, 0, 2);
            Check.due("the last that is not held", 999 * sign, () -> x.property(0, 0));
            Flowkeeper y = Tale.started(99 * sign, Edge.join(Edge.times(9, ADD, 99 * sign, 0),
                    Edge.steps(ADD, 10 * sign, 0, TELL, 0, 100)));
            Tale.decides(y, 0, 2);
            Check.due("the first that is held", 999 * sign, () -> y.property(0, 0));
            Flowkeeper z = Tale.started(99 * sign, Edge.join(Edge.times(10, ADD, 99 * sign, 0),
                    Edge.steps(ADD, -1 * sign, 0, TELL, 0, 100)));
            Tale.decides(z, 0, 2);
            Check.due("it goes on from where it is held", 998 * sign, () -> z.property(0, 0));
        }
    }

    private static void undos() {
        Edge.term("- UNDO: an activity of the kind a (0 to 5) on the queue b (0 or 1) is put on the list of what is to be "
                + "undone.");
        ranges(UNDO, 0, 5, 0, 1);
        Flowkeeper x = Tale.started(5, UNDO, 0, 1, UNDO, 5, 0, WAIT, 0, 0);
        Tale.decides(x, 0, 0);
        Check.due("it is put on the list alone", 0, () -> x.ready(0) + x.ready(1));
        Tale.cancels(x, 0);
        Tale.decides(x, 0, 1);
        Tale.behind(x, 0, 4, "UNDOING 5 0");
        Tale.does(x, 0, 100, 0);
        Tale.decides(x, 0, 1);
        Tale.behind(x, 0, 7, "UNDOING 0 1");
        Check.due("on the queue 1", 101, () -> x.take(0, 1));
    }

    private static void marks() {
        Edge.term("- MARK: the mark a (0 to 3): a change of the program that b steps (1 to 11) behind it belong to, "
                + "as told below.");
        ranges(MARK, 0, 3, 1, 11);
        Flowkeeper x = Tale.started(5, MARK, 0, 1, MARK, 3, 1, WAIT, 0, 0);
        Tale.decides(x, 0, 2);
        Tale.behind(x, 0, 2, "MARKED 0 0, MARKED 3 0");
        Flowkeeper y = Tale.started(5, TELL, 1, 7);
        Tale.version(y, 0, MARK, 0, 1, TELL, 0, 1, TELL, 1, 7);
        Tale.version(y, 0, Edge.join(Edge.steps(MARK, 3, 11), Edge.times(11, TELL, 1, 7)));
        Tale.version(y, 0, Edge.join(Edge.steps(MARK, 3, 10), Edge.times(10, TELL, 0, 1), Edge.steps(TELL, 1, 7)));
        y.decide(0, 1);
        Check.due("one step is left out", 5, () -> y.registerAnew(0, 2));
        Check.due("all eleven are left out", -2000, () -> y.registerAnew(0, 3));
        Check.due("ten are left out", 5, () -> y.registerAnew(0, 4));
    }

    private static void guards() {
        Edge.term("- GUARD: the next a steps (1 to 11) are not cut; b is 0.");
        ranges(GUARD, 1, 11, 0, 0);
        Flowkeeper one = Tale.started(5, GUARD, 1, 0, WAIT, 0, 0, TELL, 0, 1);
        one.decide(0, 1);
        Tale.cancels(one, 0);
        Tale.decides(one, 0, 0);
        Tale.signals(one, 0, 0, 0);
        Tale.decides(one, 0, 1);
        Tale.behind(one, 0, 6, "OVER 23 0");
        // Eleven: the WAIT and ten TELLs, and then the END is cut; with nine of them the END is the eleventh.
        for (int tells : new int[] {10, 9}) {
            Flowkeeper x = Tale.started(5, Edge.join(Edge.steps(GUARD, 11, 0, WAIT, 0, 0),
                    Edge.times(tells, TELL, 0, 1)));
            x.decide(0, 1);
            Tale.cancels(x, 0);
            Tale.signals(x, 0, 0, 0);
            Tale.decides(x, 0, tells + 1);
            Tale.stands(x, 0, tells == 10 ? CANCELLED : ENDED, 0, NONE);
        }
    }

    private static void tells() {
        Edge.term("- TELL: the property a (0 or 1) becomes b (-99 to 99), or, with b = 100, the register.");
        ranges(TELL, 0, 1, -99, 100);
        Flowkeeper x = Tale.started(55, TELL, 0, -99, TELL, 1, 99, WAIT, 0, 0, TELL, 0, 100, TELL, 1, 0);
        Tale.decides(x, 0, 2);
        Check.due("the least b", -99, () -> x.property(0, 0));
        Check.due("the greatest b", 99, () -> x.property(0, 1));
        Tale.signals(x, 0, 0, 77);
        Tale.decides(x, 0, 3);
        Check.due("the register", 77, () -> x.property(0, 0));
        Check.due("zero", 0, () -> x.property(0, 1));
    }

    private static void ends() {
        Edge.term("- FAIL: the workflow fails with a (1 to 9); b is 0.");
        ranges(FAIL, 1, 9, 0, 0);
        for (int a : new int[] {1, 9}) {
            Flowkeeper x = Tale.started(5, FAIL, a, 0, TELL, 0, 1);
            Tale.decides(x, 0, 1);
            Tale.behind(x, 0, 2, "OVER 22 " + a);
        }
        Edge.term("AGAIN: it goes on as new; a and b are 0.");
        ranges(AGAIN, 0, 0, 0, 0);
        Flowkeeper y = Tale.started(5, AGAIN, 0, 0, TELL, 0, 1);
        Tale.decides(y, 0, 1);
        Check.due("runs", 2, () -> y.runs(0));
        Edge.term("END: it ends; a and b are 0.");
        ranges(END, 0, 0, 0, 0);
        Flowkeeper z = Tale.started(5, END, 0, 0, TELL, 0, 1);
        Tale.decides(z, 0, 1);
        Tale.behind(z, 0, 2, "OVER 21 5");
    }

    /** Whether twelve steps, all of them SET but for this one, can be released. */
    private static void leads(boolean can, int at, int kind, int a, int b) {
        Flowkeeper x = new Flowkeeper();
        Tale.tell(x, 0, Edge.join(Edge.times(at, SET, 0, 0), Edge.steps(kind, a, b), Edge.times(11 - at, SET, 0, 0)));
        String what = "release of " + kind + " " + a + " " + b + " at " + at;
        if (can) {
            Check.due(what, 1, () -> x.release(0));
        } else {
            Check.state(what, () -> x.release(0));
            Check.due("versions", 0, () -> x.versions(0));
            Check.due("all steps are there still", 12, () -> x.forget(0));
        }
    }

    private static void leadsSomewhere() {
        Edge.term("Steps that are left out, or come behind a BACK, must be of the version: a version can be released only "
                + "if no step leads behind its end or ahead of its beginning (behind its last step it may go: there is "
                + "an END then), and SIDE is followed by as many steps of those kinds as it says.");
        for (int at = 0; at < 12; at++) {
            for (int b = 1; b <= 11; b++) {
                leads(at + b <= 11, at, SKIP, 0, b);
                leads(at + b <= 11, at, MARK, 0, b);
                leads(b <= at, at, BACK, 0, b);
            }
        }
        for (int count = 1; count <= 3; count++) {
            for (int there = 0; there <= count; there++) {
                Flowkeeper x = new Flowkeeper();
                Tale.tell(x, 0, Edge.join(Edge.steps(SIDE, count, 0), Edge.times(there, WAIT, 0, 0)));
                int n = count;
                if (there < count) {
                    Check.state("a SIDE of " + count + " at the end", () -> x.release(0));
                    Tale.tell(x, 0, SET, 0, 0);
                    Check.state("a SET among them", () -> x.release(0));
                } else {
                    Check.due("a SIDE of " + count, 1, () -> x.release(0));
                }
            }
        }
        Flowkeeper y = Tale.started(0, SKIP, 1, 1, FAIL, 1, 0);
        Tale.decides(y, 0, 1);
        Tale.behind(y, 0, 2, "OVER 21 0");
    }

    private static void newObject() {
        Edge.says(1, "`Flowkeeper()`: No programs and workflows, four workers that run.");
        Flowkeeper x = new Flowkeeper();
        Edge.allows("versions", 0, 2, type -> Check.due("versions", 0, () -> x.versions(type)));
        Edge.allows("forget", 0, 2, type -> Check.due("steps", 0, () -> x.forget(type)));
        Check.due("workflows", 0, x::workflows);
        Check.outside("a first workflow", () -> x.runs(0));
        Edge.allows("has", 0, 3, worker -> Check.due("has", NONE, () -> x.has(worker)));
        Edge.allows("take", 0, 3, worker -> Check.due("take", NONE, () -> x.take(worker, 0)));
        Edge.outside("take", 0, 3, worker -> x.take(worker, 0));
    }

    private static void step() {
        Flowkeeper x = new Flowkeeper();
        Edge.says(2, "- `type`: 0 to 2");
        Edge.allows("type", 0, 2, type -> x.step(type, END, 0, 0));
        Edge.says(2, "- `kind`: ACT to END");
        Edge.allows("kind", 0, 15, kind -> {
            int a = kind == TIMER || kind == SIDE || kind == GUARD || kind == FAIL ? 1 : 0;
            new Flowkeeper().step(0, kind, a, kind == SKIP || kind == BACK || kind == MARK ? 1 : 0);
        });
        Edge.says(2, "- `a`: as told");
        Edge.allows("a of FAIL", 1, 9, a -> new Flowkeeper().step(0, FAIL, a, 0));
        Edge.says(2, "- `b`: as told");
        Edge.allows("b of TELL", -99, 100, b -> new Flowkeeper().step(0, TELL, 0, b));
        Edge.says(2, "Returns how many steps it has then.");
        for (int i = 2; i <= 12; i++) {
            int n = i;
            Check.due("step", n, () -> x.step(0, END, 0, 0));
        }
        Check.due("of the type 2", 2, () -> x.step(2, END, 0, 0));
        Check.due("release", 1, () -> x.release(0));
        Check.due("of the next version", 1, () -> x.step(0, END, 0, 0));
        Edge.says(2, "Throws `IndexOutOfBoundsException` if there is no such type");
        Edge.outside("type", 0, 2, type -> x.step(type, END, 0, 0));
        Edge.outside("type, and a kind that is none", 0, 2, type -> x.step(type, 16, 0, 0));
        Edge.says(2, "Throws `IllegalArgumentException` if kind, a or b is out of range");
        Edge.argument("kind", 0, 15, kind -> x.step(0, kind, 0, 0));
        Edge.argument("a", 0, 5, a -> x.step(0, ACT, a, 0));
        Edge.argument("b", 0, 1, b -> x.step(0, ACT, 0, b));
        Check.due("nothing was told", 2, () -> x.step(0, END, 0, 0));
        Edge.says(2, "Throws `IllegalStateException` if it has 12 steps, or there are 4 versions");
        Flowkeeper y = new Flowkeeper();
        Tale.tell(y, 1, Edge.times(12, SET, 0, 0));
        Check.state("a thirteenth step", () -> y.step(1, SET, 0, 0));
        Check.argument("a thirteenth step out of range", () -> y.step(1, SET, 0, 1));
        Check.due("it has twelve", 12, () -> y.forget(1));
        for (int i = 1; i <= 4; i++) {
            Tale.version(y, 1, SET, 0, 0);
        }
        Check.state("a step of a fifth version", () -> y.step(1, SET, 0, 0));
        Check.argument("such a step out of range", () -> y.step(1, SET, 0, 1));
        Check.due("it has none", 0, () -> y.forget(1));
    }

    private static void forget() {
        Flowkeeper x = new Flowkeeper();
        Edge.says(3, "- `type`: 0 to 2");
        Edge.allows("type", 0, 2, x::forget);
        Edge.says(3, "Returns how many there were.");
        Check.due("none", 0, () -> x.forget(0));
        Tale.tell(x, 0, Edge.times(12, SET, 0, 0));
        Tale.tell(x, 2, SET, 0, 0);
        Check.due("one", 1, () -> x.forget(2));
        Check.due("all twelve", 12, () -> x.forget(0));
        Check.due("none any more", 0, () -> x.forget(0));
        Check.state("there is nothing to release", () -> x.release(0));
        Tale.tell(x, 2, SET, 0, 0, SKIP, 0, 11, SIDE, 3, 0);
        Check.due("three", 3, () -> x.forget(2));
        Check.due("what was forgotten leads nowhere", 1, () -> Tale.version(x, 2, SET, 0, 0));
        Check.due("there is room for twelve again", 1, () -> x.step(0, SET, 0, 0));
        x.release(0);
        Check.due("a released one is not forgotten", 0, () -> x.forget(0));
        Check.due("versions", 1, () -> x.versions(0));
        Edge.says(3, "Throws `IndexOutOfBoundsException` if there is no such type");
        Edge.outside("type", 0, 2, x::forget);
    }

    private static void release() {
        Flowkeeper x = new Flowkeeper();
        Edge.says(4, "- `type`: 0 to 2");
        Edge.allows("type", 0, 2, type -> Tale.version(x, type, SET, 0, 0));
        Edge.says(4, "Returns its number.");
        Check.due("the second one", 2, () -> Tale.version(x, 0, SET, 0, 0));
        Check.due("the third one", 3, () -> Tale.version(x, 0, SET, 0, 0));
        Check.due("the fourth one", 4, () -> Tale.version(x, 0, SET, 0, 0));
        Edge.says(4, "Throws `IndexOutOfBoundsException` if there is no such type");
        Edge.outside("type", 0, 2, x::release);
        Edge.says(4, "Throws `IllegalStateException` if it has no steps, or one leads to where there is none, or SIDE is "
                + "not followed as told");
        Check.state("no steps", () -> x.release(1));
        Tale.tell(x, 1, SKIP, 0, 1);
        Check.state("a step that leads behind the end", () -> x.release(1));
        Tale.tell(x, 1, SET, 0, 0);
        Check.due("with one step more it does not", 2, () -> x.release(1));
        Tale.tell(x, 1, BACK, 0, 1);
        Check.state("a step that leads ahead of the beginning", () -> x.release(1));
        x.forget(1);
        Tale.tell(x, 1, SIDE, 2, 0, ACT, 0, 0);
        Check.state("a SIDE of two with one", () -> x.release(1));
        Tale.tell(x, 1, ACT, 0, 0);
        Check.due("and with two", 3, () -> x.release(1));
        Check.due("versions", 3, () -> x.versions(1));
    }

    private static void countOfVersions() {
        Flowkeeper x = new Flowkeeper();
        Edge.says(5, "- `type`: 0 to 2");
        Edge.allows("type", 0, 2, x::versions);
        Edge.says(5, "Returns how many.");
        for (int i = 0; i < 4; i++) {
            int n = i;
            Check.due("versions", n, () -> x.versions(1));
            Tale.tell(x, 1, SET, 0, 0);
            Check.due("one that is told is none", n, () -> x.versions(1));
            x.release(1);
        }
        Check.due("all four", 4, () -> x.versions(1));
        Check.due("of the other types none", 0, () -> x.versions(0) + x.versions(2));
        Edge.says(5, "Throws `IndexOutOfBoundsException` if there is no such type");
        Edge.outside("type", 0, 2, x::versions);
    }
}
