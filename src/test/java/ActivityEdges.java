/** The sentences under 'Activities' and 'Ticks', and of the promises 10 to 20. */
final class ActivityEdges implements Words {
    private ActivityEdges() {
    }

    static void all() {
        rates();
        fewestTaken();
        longestReady();
        leased();
        oneAtATime();
        beats();
        endsOrFails();
        thirdTry();
        readyAgain();
        tooLate();
        stops();
        clockFirst();
        timersThen();
        leasesThen();
        readyThen();
        signals();
        setRate();
        take();
        has();
        beat();
        end();
        fail();
        run();
        ready();
        taken();
        tick();
    }

    /** So many workflows of the tenant 0, each with an activity on the queue 0 that is ready. */
    private static Flowkeeper many(int workflows) {
        Flowkeeper x = new Flowkeeper();
        Tale.version(x, 0, ACT, 0, 0);
        for (int i = 0; i < workflows; i++) {
            x.start(0, 0, 0);
            x.decide(i, 1);
        }
        return x;
    }

    private static void rates() {
        Edge.term("An activity can be taken from a queue only if fewer were taken from it in this tick than its rate tells "
                + "then (1 to 9, 9 at first).");
        Flowkeeper x = many(10);
        for (int i = 0; i < 9; i++) {
            Tale.does(x, 0, 1000 * i + 100, 0);
        }
        Check.due("nine were taken", NONE, () -> x.take(0, 0));
        x.tick(1);
        Check.due("in the next tick none was", 9100, () -> x.take(0, 0));
        Flowkeeper y = many(4);
        y.setRate(0, 1);
        Tale.does(y, 0, 100, 0);
        Check.due("as many as the rate tells", NONE, () -> y.take(0, 0));
        y.setRate(0, 3);
        Tale.does(y, 0, 1100, 0);
        Tale.does(y, 0, 2100, 0);
        y.setRate(0, 2);
        Check.due("more than it tells now", NONE, () -> y.take(0, 0));
        Check.due("one is ready", 1, () -> y.ready(0));
        y.tick(1);
        Check.due("in the next tick none was taken", 3100, () -> y.take(0, 0));
        // Just so many in each tick, the second and the third like the first, of each queue.
        for (int queue = 0; queue < 2; queue++) {
            int q = queue;
            Flowkeeper each = Tale.started(0, SIDE, 3, 0, ACT, 0, q, ACT, 0, q, ACT, 0, q);
            each.start(0, 0, 0);
            each.decide(0, 1);
            each.decide(1, 1);
            each.setRate(q, 2);
            for (int i = 0; i < 6; i += 2) {
                Tale.does(each, q, 1000 * (i / 3) + 100 + i % 3, 0);
                Tale.does(each, q, 1000 * ((i + 1) / 3) + 100 + (i + 1) % 3, 0);
                Check.due("two were taken", NONE, () -> each.take(0, q));
                each.tick(1);
            }
        }
        // Each queue counts its own, and a take that finds none does not count.
        Flowkeeper z = Tale.started(0, SIDE, 3, 0, ACT, 0, 1, ACT, 0, 0, ACT, 0, 0);
        z.setRate(0, 1);
        z.setRate(1, 1);
        Check.due("none is ready", NONE, () -> z.take(0, 0));
        z.decide(0, 1);
        Check.due("from the queue 1", 100, () -> z.take(0, 1));
        Check.due("from the queue 0", 101, () -> z.take(1, 0));
        Check.due("one was taken", NONE, () -> z.take(2, 0));
    }

    /** A workflow of each tenant from 2 down to 0, each with three activities on the queue 0. */
    private static Flowkeeper tenants() {
        Flowkeeper x = new Flowkeeper();
        Tale.version(x, 0, SIDE, 3, 0, ACT, 0, 0, ACT, 0, 0, ACT, 0, 0);
        for (int i = 0; i < 3; i++) {
            x.start(0, 2 - i, 0);
            x.decide(i, 1);
        }
        return x;
    }

    private static void fewestTaken() {
        Edge.term("To take one for a worker (0 to 3): of the activities of this queue that are ready, those of the tenant of "
                + "which the fewest were taken from this queue so far, of several the lowest one;");
        Flowkeeper x = tenants();
        Edge.outside("worker", 0, 3, worker -> x.take(worker, 0));
        for (int round = 0; round < 3; round++) {
            for (int tenant = 0; tenant < 3; tenant++) {
                Tale.does(x, 0, 1000 * (2 - tenant) + 100 + round, 0);
            }
        }
        Check.due("none is ready", NONE, () -> x.take(3, 0));
        // A tenant of which none is ready does not count, though the fewest of it were taken.
        Flowkeeper y = tenants();
        y.cancel(2);
        y.decide(2, 1);
        Tale.does(y, 0, 1100, 0);
        Tale.does(y, 0, 100, 0);
        Tale.does(y, 0, 1101, 0);
        // Tries that failed count like others; so far means in all ticks.
        Flowkeeper z = tenants();
        Check.due("take", 2100, () -> z.take(0, 0));
        z.fail(0);
        z.tick(2);
        Check.due("take", 1100, () -> z.take(0, 0));
        Check.due("take", 100, () -> z.take(1, 0));
        Check.due("all have had one: the lowest", 2101, () -> z.take(2, 0));
        Check.due("taken of the tenant 0", 2, () -> z.taken(0, 0));
    }

    private static void longestReady() {
        Edge.term("of these the one that has been ready for the longest time (of several the one that was decided first).");
        Flowkeeper x = new Flowkeeper();
        Tale.version(x, 0, SIDE, 2, 0, ACT, 0, 0, ACT, 0, 0);
        for (int i = 0; i < 3; i++) {
            x.start(0, 0, 0);
        }
        x.decide(2, 1);
        x.tick(1);
        x.decide(1, 1);
        x.decide(0, 1);
        Tale.does(x, 0, 2100, 0);
        Tale.does(x, 0, 2101, 0);
        Tale.does(x, 0, 1100, 0);
        Tale.does(x, 0, 1101, 0);
        Tale.does(x, 0, 100, 0);
        // One that has rested is ready since then: behind those of a tick before, ahead of those of its tick.
        Flowkeeper y = many(1);
        y.take(0, 0);
        y.fail(0);
        y.tick(1);
        y.start(0, 0, 0);
        y.decide(1, 1);
        y.tick(1);
        y.start(0, 0, 0);
        y.decide(2, 1);
        Tale.does(y, 0, 1100, 0);
        Tale.does(y, 0, 100, 0);
        Tale.does(y, 0, 2100, 0);
    }

    private static void leased() {
        Edge.term("It is leased to the worker then, for 10 ticks, as its next try, the first being 1.");
        Flowkeeper x = many(1);
        x.tick(3);
        for (int tried = 1; tried <= 3; tried++) {
            int n = tried;
            Check.due("take", 100, () -> x.take(0, 0));
            Check.due("it is not ready", 0, () -> x.ready(0));
            x.tick(9);
            Check.due("nine ticks later it is leased", 100, () -> x.has(0));
            if (tried < 3) {
                x.tick(1);
                Check.due("ten ticks later it is not", NONE, () -> x.has(0));
                x.tick(2 * tried);
            } else {
                Check.due("which try it is", n, () -> x.fail(0));
            }
        }
    }

    private static void oneAtATime() {
        Edge.term("A worker has at most one activity at a time.");
        Flowkeeper x = many(3);
        Check.due("one", 100, () -> x.take(0, 0));
        Check.state("a second one", () -> x.take(0, 0));
        Check.state("one of the other queue", () -> x.take(0, 1));
        Check.due("it has the first one", 100, () -> x.has(0));
        Check.due("two are ready", 2, () -> x.ready(0));
        x.end(0, 0);
        Check.due("then the next one", 1100, () -> x.take(0, 0));
        x.fail(0);
        Check.due("then the next one", 2100, () -> x.take(0, 0));
    }

    private static void beats() {
        Edge.term("The worker may beat: the lease is 10 ticks from now on again.");
        Flowkeeper x = many(1);
        x.take(0, 0);
        x.tick(9);
        Check.due("in the last tick of it", 19, () -> x.beat(0));
        x.tick(9);
        Check.due("it is leased", 100, () -> x.has(0));
        x.tick(1);
        Check.due("it has ended", NONE, () -> x.has(0));
        Check.state("a beat too late", () -> x.beat(0));
        // From now on, not ten ticks more; and the try stays the same one.
        Flowkeeper y = many(1);
        y.take(0, 0);
        for (int i = 0; i < 3; i++) {
            Check.due("beat", 10, () -> y.beat(0));
        }
        y.tick(10);
        Check.due("it has ended", NONE, () -> y.has(0));
        y.tick(2);
        y.take(0, 0);
        Check.due("the second try", 2, () -> y.fail(0));
    }

    private static void endsOrFails() {
        Edge.term("It may end it with a result (-99 to 99): DONE happens; or tell that the try failed.");
        Flowkeeper x = many(3);
        x.take(0, 0);
        x.take(1, 0);
        x.take(2, 0);
        Edge.argument("result", -99, 99, result -> x.end(0, result));
        Check.holds("the least result", () -> Check.truth(x.end(0, -99)));
        Check.holds("the greatest result", () -> Check.truth(x.end(1, 99)));
        Tale.behind(x, 0, 3, "DONE 0 -99");
        Tale.behind(x, 1, 3, "DONE 0 99");
        Check.due("the try failed", 1, () -> x.fail(2));
        Tale.behind(x, 2, 3, "");
    }

    private static void thirdTry() {
        Edge.term("When a try failed, or its lease has ended (in the tick in which no tick of it is left), then, if it was "
                + "the third try, LOST happens;");
        // Each of the three tries fails (1) or its lease ends (0).
        for (int ways = 0; ways < 8; ways++) {
            Flowkeeper x = many(1);
            for (int tried = 1; tried <= 3; tried++) {
                int n = tried;
                Check.due("take", 100, () -> x.take(0, 0));
                Check.due("not LOST yet", 3, () -> x.events(0, 1));
                if ((ways >> tried - 1 & 1) == 1) {
                    Check.due("fail", n, () -> x.fail(0));
                } else {
                    x.tick(9);
                    Check.due("not LOST yet", 3, () -> x.events(0, 1));
                    x.tick(1);
                }
                if (tried < 3) {
                    x.tick(2 * tried);
                }
            }
            Tale.behind(x, 0, 3, "LOST 0 0");
            x.tick(50);
            Check.due("it is not ready again", 0, () -> x.ready(0));
            Check.due("nothing more happens", 4, () -> x.events(0, 1));
        }
    }

    private static void readyAgain() {
        Edge.term("otherwise it is ready again 2 ticks later behind the first try, 4 behind the second one.");
        for (int way = 0; way < 2; way++) {
            Flowkeeper x = many(1);
            for (int tried = 1; tried <= 2; tried++) {
                x.take(0, 0);
                if (way == 0) {
                    x.fail(0);
                } else {
                    x.tick(10);
                }
                x.tick(2 * tried - 1);
                Check.due("a tick before", 0, () -> x.ready(0));
                Check.due("it can't be taken", NONE, () -> x.take(0, 0));
                x.tick(1);
                Check.due("then", 1, () -> x.ready(0));
            }
        }
        // A lease that ends within a call of many ticks: the ticks behind it count.
        Flowkeeper y = many(1);
        y.take(0, 0);
        y.tick(11);
        Check.due("a tick before", 0, () -> y.ready(0));
        Flowkeeper z = many(1);
        z.take(0, 0);
        z.tick(12);
        Check.due("then", 1, () -> z.ready(0));
    }

    private static void tooLate() {
        Edge.term("A worker whose lease has ended has nothing any more; what it tells then is too late.");
        Flowkeeper x = many(1);
        x.take(0, 0);
        x.tick(10);
        Check.due("it has nothing", NONE, () -> x.has(0));
        Check.state("it ends it", () -> x.end(0, 1));
        Check.state("it tells that it failed", () -> x.fail(0));
        Check.state("it beats", () -> x.beat(0));
        Check.due("nothing happens", 3, () -> x.events(0, 1));
        x.tick(2);
        Check.due("another one takes it", 100, () -> x.take(1, 0));
        Check.state("what the first one tells is not about that", () -> x.end(0, 1));
        Check.due("the other one has it", 100, () -> x.has(1));
        Check.due("the second try", 2, () -> x.fail(1));
    }

    private static void stops() {
        Edge.term("When a worker stops, it forgets what it has; the lease goes on.");
        Flowkeeper x = many(1);
        x.take(0, 0);
        x.tick(4);
        Check.holds("stop", () -> Check.truth(x.run(0, false)));
        Check.due("it has nothing", NONE, () -> x.has(0));
        Check.due("it is not ready", 0, () -> x.ready(0));
        x.tick(5);
        Check.due("nobody can take it", NONE, () -> x.take(1, 0));
        x.tick(2);
        Check.due("it rests since the lease has ended", 0, () -> x.ready(0));
        x.tick(1);
        Check.due("it is ready again", 1, () -> x.ready(0));
        Check.due("as its second try", 100, () -> x.take(1, 0));
        Check.due("fail", 2, () -> x.fail(1));
        Edge.term("When it starts again, it has nothing.");
        Flowkeeper y = many(2);
        y.take(0, 0);
        y.run(0, false);
        Check.due("start", 0, () -> Check.truth(y.run(0, true)));
        Check.due("it has nothing", NONE, () -> y.has(0));
        Check.state("nothing to end", () -> y.end(0, 0));
        Check.due("it may take another one", 1100, () -> y.take(0, 0));
    }

    private static void clockFirst() {
        Edge.term("The clock is 0 at first. In each tick, first it becomes 1 more;");
        Flowkeeper x = Tale.started(0, TIMER, 1, 0);
        Check.due("clock", 0, x::clock);
        x.decide(0, 1);
        Check.due("the timer is not due in the tick in which it is set", 3, () -> x.events(0, 1));
        Check.due("tick", 1, () -> x.tick(1));
        Check.due("it is in the next one", 4, () -> x.events(0, 1));
        Check.due("clock", 1, x::clock);
    }

    private static void timersThen() {
        Edge.term("then the timers that are due fire, by rising numbers of workflows, then of timers;");
        Flowkeeper x = Tale.started(0, SIDE, 3, 0, TIMER, 2, 0, TIMER, 1, 0, WAIT, 0, 2);
        x.decide(0, 1);
        x.tick(2);
        Tale.behind(x, 0, 5, "FIRED 1 0, FIRED 0 0, FIRED 2 0");
        // They fire ahead of the leases that end in the same tick.
        Flowkeeper y = Tale.started(0, SIDE, 3, 0, ACT, 0, 0, TIMER, 16, 0, ACT, 0, 0);
        y.decide(0, 1);
        Tale.loseTwice(y, 100, 101);
        y.take(0, 0);
        y.take(1, 0);
        y.tick(10);
        Tale.behind(y, 0, 5, "FIRED 0 0, LOST 0 0, LOST 1 0");
        // With room for one event only, the timer has it.
        Flowkeeper z = Tale.started(0, SIDE, 2, 0, ACT, 0, 0, TIMER, 16, 0);
        z.decide(0, 1);
        Tale.loseTwice(z, 100);
        z.take(0, 0);
        Edge.fill(z, 0, 0, 77);
        z.tick(10);
        Tale.behind(z, 0, 77, "FIRED 0 0");
    }

    private static void leasesThen() {
        Edge.term("then the leases that end, by rising numbers of workflows, then of activities;");
        // Taken in another order than that of their numbers.
        Flowkeeper x = Tale.started(0, SIDE, 3, 0, ACT, 0, 1, ACT, 0, 0, ACT, 0, 1);
        x.decide(0, 1);
        for (int tried = 1; tried <= 3; tried++) {
            Check.due("take", 101, () -> x.take(0, 0));
            Check.due("take", 100, () -> x.take(1, 1));
            Check.due("take", 102, () -> x.take(2, 1));
            if (tried < 3) {
                x.tick(10);
                x.tick(2 * tried);
            }
        }
        x.tick(9);
        Check.due("none is LOST yet", 5, () -> x.events(0, 1));
        x.tick(1);
        Tale.behind(x, 0, 5, "LOST 0 0, LOST 1 0, LOST 2 0");
    }

    private static void readyThen() {
        Edge.term("then activities become ready whose ticks are over, in the same order.");
        // One whose lease ends in a tick rests two ticks more, it is not ready in the same one.
        Flowkeeper x = many(2);
        x.take(0, 0);
        x.tick(2);
        x.take(1, 0);
        x.tick(6);
        x.fail(1);
        x.tick(2);
        Check.due("one is ready, of the other the lease has just ended", 1, () -> x.ready(0));
        Check.due("which is the second one", 1100, () -> x.take(2, 0));
        x.tick(1);
        Check.due("the other one rests", 0, () -> x.ready(0));
        x.tick(1);
        Check.due("it is ready", 100, () -> x.take(3, 0));
        // Both of one tick: the one that was decided first is taken first.
        Flowkeeper y = new Flowkeeper();
        Tale.version(y, 0, ACT, 0, 0);
        y.start(0, 0, 0);
        y.start(0, 0, 0);
        y.decide(1, 1);
        y.decide(0, 1);
        y.take(0, 0);
        y.take(1, 0);
        y.fail(1);
        y.fail(0);
        y.tick(2);
        Check.due("take", 1100, () -> y.take(0, 0));
        Check.due("take", 100, () -> y.take(1, 0));
    }

    private static void signals() {
        Edge.term("A signal to a workflow happens to its latest run, if this is RUNNING; so does a cancel, once in a run.");
        Flowkeeper x = Tale.started(5, GUARD, 2, 0, WAIT, 0, 0, AGAIN, 0, 0);
        Tale.cancels(x, 0);
        Check.due("once in a run", 0, () -> Check.truth(x.cancel(0)));
        Tale.signals(x, 0, 0, 1);
        x.decide(0, 1);
        Tale.signals(x, 0, 1, 2);
        Tale.all(x, 0, "STARTED 1 0, CANCEL 0 0, SIGNAL 1 2");
        Check.due("nothing more of the first run", 5, () -> x.events(0, 1));
        Flowkeeper y = Tale.started(5, END, 0, 0);
        y.decide(0, 1);
        Check.due("a signal to one that is over", 0, () -> Check.truth(y.signal(0, 0, 0)));
        Check.due("a cancel of one that is over", 0, () -> Check.truth(y.cancel(0)));
        Check.due("nothing happens", 3, () -> y.events(0, 1));
    }

    // ---- the promises

    private static void queue(int promise, String refusal, Edge.Asked call) {
        Edge.says(promise, "- `queue`: 0 or 1");
        Edge.allows("queue", 0, 1, call);
        Edge.says(promise, "Throws `IndexOutOfBoundsException` if there is no such " + refusal);
        Edge.outside("queue", 0, 1, call);
    }

    private static void worker(int promise, String refusal, Edge.Asked call) {
        Edge.says(promise, "Throws `IndexOutOfBoundsException` if there is no such " + refusal);
        Edge.outside("worker", 0, 3, call);
    }

    /** All four workers have an activity, or none of them. */
    private static Flowkeeper four(boolean have) {
        Flowkeeper x = many(have ? 4 : 0);
        for (int i = 0; i < 4 && have; i++) {
            x.take(i, 0);
        }
        return x;
    }

    private static void setRate() {
        Flowkeeper x = new Flowkeeper();
        queue(10, "queue", queue -> x.setRate(queue, 9));
        Edge.outside("queue, and a rate that is none", 0, 1, queue -> x.setRate(queue, 0));
        Edge.says(10, "- `rate`: 1 to 9");
        Edge.allows("rate", 1, 9, rate -> x.setRate(0, rate));
        Edge.says(10, "Returns the rate before.");
        Check.due("of the queue 1 the first one", 9, () -> x.setRate(1, 1));
        Check.due("then that", 1, () -> x.setRate(1, 5));
        Check.due("of the queue 0", 9, () -> x.setRate(0, 4));
        Edge.says(10, "Throws `IllegalArgumentException` if rate is out of range");
        Edge.argument("rate", 1, 9, rate -> x.setRate(0, rate));
        Check.due("the rate is as it was", 4, () -> x.setRate(0, 9));
    }

    private static void take() {
        Flowkeeper x = four(false);
        queue(11, "worker or queue", queue -> x.take(0, queue));
        Edge.outside("worker", 0, 3, worker -> x.take(worker, 0));
        Edge.says(11, "- `worker`: 0 to 3");
        Edge.allows("worker", 0, 3, worker -> x.take(worker, 0));
        Edge.says(11, "Returns 1000 times its workflow, 100 times the run and its number, added; NONE if none is ready, or "
                + "as many were taken from the queue in this tick as the rate tells now, or more.");
        Check.due("none is ready", NONE, () -> x.take(0, 0));
        Flowkeeper least = many(1);
        Check.due("the first workflow, run and number", 100, () -> least.take(0, 0));
        Flowkeeper most = new Flowkeeper();
        Tale.version(most, 0, SIDE, 3, 0, ACT, 0, 0, ACT, 0, 0, ACT, 0, 0, SIDE, 3, 0, ACT, 0, 0, ACT, 0, 0,
                ACT, 0, 0, AGAIN, 0, 0);
        Tale.version(most, 0, AGAIN, 0, 0);
        for (int i = 0; i < 10; i++) {
            most.start(0, 0, 0);
        }
        for (int run = 1; run <= 8; run++) {
            Check.due("decide", 1, () -> most.decide(9, 2));
        }
        most.decide(9, 1);
        for (int i = 0; i < 3; i++) {
            Tale.does(most, 0, 9900 + i, 9);
        }
        most.decide(9, 1);
        for (int i = 3; i < 6; i++) {
            Tale.does(most, 0, 9900 + i, 9);
        }
        Flowkeeper rated = many(2);
        rated.setRate(0, 1);
        Tale.does(rated, 0, 100, 0);
        Check.due("as many as the rate tells", NONE, () -> rated.take(0, 0));
        Check.due("it was not taken", 1, () -> rated.taken(0, 0));
        Edge.says(11, "Throws `IllegalStateException` if the worker does not run, or has an activity");
        Flowkeeper y = many(2);
        y.run(0, false);
        Check.state("it does not run", () -> y.take(0, 0));
        Check.outside("nor is there such a queue", () -> y.take(0, 2));
        y.take(1, 0);
        Check.state("it has an activity", () -> y.take(1, 0));
        Check.outside("nor is there such a queue", () -> y.take(1, -1));
        Check.due("nothing was taken", 1, () -> y.taken(0, 0));
        y.run(0, true);
        Check.due("it runs again", 1100, () -> y.take(0, 0));
        Check.state("though none is ready", () -> y.take(0, 0));
    }

    private static void has() {
        Flowkeeper x = four(true);
        Edge.says(12, "- `worker`: 0 to 3");
        Edge.allows("worker", 0, 3, x::has);
        worker(12, "worker", x::has);
        Edge.says(12, "Returns as take() does; NONE if it has none.");
        Check.due("the first one", 100, () -> x.has(0));
        Check.due("the last one", 3100, () -> x.has(3));
        x.end(3, 0);
        Check.due("none any more", NONE, () -> x.has(3));
        Check.due("none at first", NONE, () -> four(false).has(0));
    }

    private static void beat() {
        Flowkeeper x = four(true);
        Edge.says(13, "- `worker`: 0 to 3");
        Edge.allows("worker", 0, 3, x::beat);
        worker(13, "worker", x::beat);
        Edge.says(13, "Returns the tick in which its lease ends then.");
        Check.due("at the clock 0", 10, () -> x.beat(0));
        x.tick(9);
        Check.due("at the clock 9", 19, () -> x.beat(0));
        Check.due("at the clock 9", 19, () -> x.beat(3));
        x.tick(9);
        Check.due("not yet", 100, () -> x.has(0));
        Check.due("the others had ended", NONE, () -> x.has(1));
        x.tick(1);
        Check.due("in that tick", NONE, () -> x.has(0));
        Edge.says(13, "Throws `IllegalStateException` if it has no activity");
        Flowkeeper y = four(false);
        for (int worker = 0; worker < 4; worker++) {
            int n = worker;
            Check.state("none", () -> y.beat(n));
        }
    }

    private static void end() {
        Flowkeeper x = four(true);
        worker(14, "worker", worker -> x.end(worker, 0));
        Edge.outside("worker, and a result that is none", 0, 3, worker -> x.end(worker, 100));
        Edge.says(14, "Throws `IllegalArgumentException` if result is out of range");
        Edge.argument("result", -99, 99, result -> x.end(0, result));
        Check.due("it has it still", 100, () -> x.has(0));
        Edge.says(14, "- `worker`: 0 to 3");
        Edge.allows("worker", 0, 3, worker -> x.end(worker, 0));
        Edge.says(14, "- `result`: -99 to 99");
        for (int result : new int[] {-99, 99}) {
            Flowkeeper y = many(1);
            y.take(0, 0);
            Check.holds("end", () -> Check.truth(y.end(0, result)));
            Tale.behind(y, 0, 3, "DONE 0 " + result);
        }
        Edge.says(14, "Returns whether DONE happens (the history can take it); the activity is over in any case.");
        for (int events = 77; events <= 78; events++) {
            Flowkeeper y = many(1);
            y.take(0, 0);
            Edge.fill(y, 0, 0, events);
            Check.due("with " + events + " events", 78 - events, () -> Check.truth(y.end(0, 5)));
            Check.due("it is over", NONE, () -> y.has(0));
            y.tick(50);
            Check.due("it is not ready again", 0, () -> y.ready(0));
            Check.due("events", 78, () -> y.events(0, 1));
        }
        Edge.says(14, "Throws `IllegalStateException` if it has no activity");
        Flowkeeper none = four(false);
        for (int worker = 0; worker < 4; worker++) {
            int n = worker;
            Check.state("none", () -> none.end(n, 0));
            Check.argument("none, and a result that is none", () -> none.end(n, -100));
        }
        Check.state("it was ended", () -> x.end(0, 0));
    }

    private static void fail() {
        Flowkeeper x = four(true);
        worker(15, "worker", x::fail);
        Edge.says(15, "- `worker`: 0 to 3");
        Edge.allows("worker", 0, 3, x::fail);
        Edge.says(15, "Returns which try it was.");
        Flowkeeper y = many(1);
        for (int tried = 1; tried <= 3; tried++) {
            int n = tried;
            y.take(0, 0);
            Check.due("try", n, () -> y.fail(0));
            y.tick(4);
        }
        Tale.behind(y, 0, 3, "LOST 0 0");
        Flowkeeper full = many(1);
        Tale.loseTwice(full, 100);
        full.take(0, 0);
        Edge.fill(full, 0, 0, 78);
        Check.due("the third one, though LOST can't happen", 3, () -> full.fail(0));
        Check.due("it is over", NONE, () -> full.has(0));
        Check.due("events", 78, () -> full.events(0, 1));
        Edge.says(15, "Throws `IllegalStateException` if it has no activity");
        Flowkeeper none = four(false);
        for (int worker = 0; worker < 4; worker++) {
            int n = worker;
            Check.state("none", () -> none.fail(n));
            Check.state("it has told that already", () -> x.fail(n));
        }
    }

    private static void run() {
        Flowkeeper x = four(false);
        Edge.says(16, "- `worker`: 0 to 3");
        Edge.allows("worker", 0, 3, worker -> x.run(worker, false));
        worker(16, "worker", worker -> x.run(worker, true));
        Edge.outside("worker", 0, 3, worker -> x.run(worker, false));
        Edge.says(16, "- `runs`: whether it runs from now on");
        for (int worker = 0; worker < 4; worker++) {
            int n = worker;
            Check.state("it does not", () -> x.take(n, 0));
            Check.due("start", 0, () -> Check.truth(x.run(n, true)));
            Check.due("it does", NONE, () -> x.take(n, 0));
        }
        Edge.says(16, "Returns whether it had an activity (which it forgets if it is stopped).");
        Flowkeeper y = many(1);
        Check.due("it runs, and has none", 0, () -> Check.truth(y.run(0, true)));
        y.take(0, 0);
        Check.holds("it runs, and has one", () -> Check.truth(y.run(0, true)));
        Check.due("which it keeps", 100, () -> y.has(0));
        Check.holds("it had one", () -> Check.truth(y.run(0, false)));
        Check.due("which it forgets", NONE, () -> y.has(0));
        Check.due("it has none any more", 0, () -> Check.truth(y.run(0, false)));
        Check.due("nor when it starts", 0, () -> Check.truth(y.run(0, true)));
    }

    private static void ready() {
        Flowkeeper x = Tale.started(0, SIDE, 3, 0, ACT, 0, 1, ACT, 0, 1, ACT, 0, 0);
        queue(17, "queue", x::ready);
        Edge.says(17, "Returns how many.");
        Check.due("none", 0, () -> x.ready(1));
        x.decide(0, 1);
        Check.due("on the queue 1", 2, () -> x.ready(1));
        Check.due("on the queue 0", 1, () -> x.ready(0));
        x.take(0, 1);
        Check.due("one is leased", 1, () -> x.ready(1));
        x.fail(0);
        Check.due("it rests", 1, () -> x.ready(1));
        x.tick(2);
        Check.due("it is ready", 2, () -> x.ready(1));
        x.take(0, 1);
        x.end(0, 0);
        Check.due("one is over", 1, () -> x.ready(1));
        Check.due("more than the rate tells", 10, () -> many(10).ready(0));
    }

    private static void taken() {
        Flowkeeper x = tenants();
        queue(18, "queue or tenant", queue -> x.taken(queue, 0));
        Edge.outside("tenant", 0, 2, tenant -> x.taken(0, tenant));
        Edge.says(18, "- `tenant`: 0 to 2");
        Edge.allows("tenant", 0, 2, tenant -> x.taken(0, tenant));
        Edge.says(18, "Returns how many, so far.");
        Check.due("none", 0, () -> x.taken(0, 0));
        for (int i = 1; i <= 3; i++) {
            int n = i;
            for (int tenant = 0; tenant < 3; tenant++) {
                int t = tenant;
                x.take(0, 0);
                x.end(0, 0);
                Check.due("of the tenant " + t, n, () -> x.taken(0, t));
            }
            x.tick(1);
        }
        Check.due("a take that finds none", NONE, () -> x.take(0, 0));
        Check.due("does not count", 3, () -> x.taken(0, 0));
        Check.due("from the other queue", 0, () -> x.taken(1, 0));
    }

    private static void tick() {
        Flowkeeper x = new Flowkeeper();
        Edge.says(19, "- `ticks`: 1 to 50");
        Edge.allows("ticks", 1, 50, x::tick);
        Edge.says(19, "Returns the clock then.");
        Check.due("the least", 1276, () -> x.tick(1));
        Check.due("the most", 1326, () -> x.tick(50));
        Edge.says(19, "Throws `IllegalArgumentException` if ticks is out of range");
        Edge.argument("ticks", 1, 50, x::tick);
        Edge.says(20, "`int clock()`: Returns the clock.");
        Check.due("clock", 1326, x::clock);
        Check.due("at first", 0, () -> new Flowkeeper().clock());
    }
}
