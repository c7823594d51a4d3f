/** Promises 10 to 20: queues, workers, leases, ticks. */
final class ActivitiesTest implements Words {
    public static void main(String[] args) {
        wrongCalls();
        rates();
        longestReady();
        readyAgain();
        tenants();
        tenantsByQueue();
        names();
        leases();
        beats();
        tries();
        mixedTries();
        tooLate();
        stops();
        ends();
        ticks();
        orderInTick();
        Check.done("ActivitiesTest");
    }

    private static void wrongCalls() {
        Flowkeeper x = Tale.started(0, ACT, 0, 0);
        x.decide(0, 1);
        for (int worker : new int[] {-1, 4, Integer.MIN_VALUE, Integer.MAX_VALUE}) {
            Check.outside("take", () -> x.take(worker, 0));
            Check.outside("has", () -> x.has(worker));
            Check.outside("beat", () -> x.beat(worker));
            Check.outside("end", () -> x.end(worker, 0));
            Check.outside("end: worker ahead of result", () -> x.end(worker, 100));
            Check.outside("fail", () -> x.fail(worker));
            Check.outside("run", () -> x.run(worker, false));
        }
        for (int queue : new int[] {-1, 2, Integer.MIN_VALUE, Integer.MAX_VALUE}) {
            Check.outside("take", () -> x.take(0, queue));
            Check.outside("ready", () -> x.ready(queue));
            Check.outside("taken", () -> x.taken(queue, 0));
            Check.outside("setRate", () -> x.setRate(queue, 1));
            Check.outside("setRate: queue ahead of rate", () -> x.setRate(queue, 0));
        }
        for (int tenant : new int[] {-1, 3, Integer.MIN_VALUE, Integer.MAX_VALUE}) {
            Check.outside("taken", () -> x.taken(0, tenant));
        }
        for (int rate : new int[] {-1, 0, 10, Integer.MIN_VALUE, Integer.MAX_VALUE}) {
            Check.argument("setRate", () -> x.setRate(0, rate));
        }
        Check.due("the rate is the first one", 9, () -> x.setRate(0, 9));
        for (int worker = 0; worker < 4; worker++) {
            int n = worker;
            Check.state("beat", () -> x.beat(n));
            Check.state("end", () -> x.end(n, 0));
            Check.state("fail", () -> x.fail(n));
            for (int result : new int[] {-100, 100, Integer.MIN_VALUE, Integer.MAX_VALUE}) {
                Check.argument("end: result ahead of state", () -> x.end(n, result));
            }
        }
        Check.due("ready", 1, () -> x.ready(0));
        Check.due("take", 100, () -> x.take(3, 0));
        Check.argument("end", () -> x.end(3, 100));
        Check.due("it has it still", 100, () -> x.has(3));
        Check.state("take with an activity", () -> x.take(3, 0));
        Check.state("of the other queue, too", () -> x.take(3, 1));
        Check.outside("no such queue ahead of that", () -> x.take(3, 2));
    }

    /** Ten workflows with an activity each. */
    private static Flowkeeper ten(int tenants) {
        Flowkeeper x = new Flowkeeper();
        Tale.version(x, 0, ACT, 0, 0, ACT, 1, 0, ACT, 1, 0, ACT, 1, 0);
        for (int i = 0; i < 10; i++) {
            x.start(0, i % tenants, 0);
            x.decide(i, 1);
        }
        return x;
    }

    private static void rates() {
        Flowkeeper x = ten(1);
        Check.due("setRate", 9, () -> x.setRate(0, 2));
        Check.due("the other queue has its own", 9, () -> x.setRate(1, 3));
        Tale.does(x, 0, 100, 0);
        Tale.does(x, 0, 1100, 0);
        Check.due("two were taken", NONE, () -> x.take(0, 0));
        Check.due("ready", 8, () -> x.ready(0));
        Check.due("setRate", 2, () -> x.setRate(0, 3));
        Tale.does(x, 0, 2100, 0);
        Check.due("three were taken", NONE, () -> x.take(0, 0));
        Check.due("setRate", 3, () -> x.setRate(0, 1));
        Check.due("more than the rate tells were taken", NONE, () -> x.take(0, 0));
        x.tick(1);
        Tale.does(x, 0, 3100, 0);
        Check.due("one was taken", NONE, () -> x.take(0, 0));
        Check.due("setRate", 1, () -> x.setRate(0, 9));
        for (int i = 4; i < 10; i++) {
            Tale.does(x, 0, 1000 * i + 100, 0);
        }
        Check.due("none is ready", NONE, () -> x.take(0, 0));
        Check.due("taken", 10, () -> x.taken(0, 0));
        x.tick(1);
        // Nine at first, in one tick.
        Flowkeeper y = ten(1);
        for (int i = 0; i < 9; i++) {
            Tale.does(y, 0, 1000 * i + 100, 0);
        }
        Check.due("the tenth one in a tick", NONE, () -> y.take(0, 0));
        y.tick(1);
        Tale.does(y, 0, 9100, 0);
    }

    private static void longestReady() {
        Flowkeeper x = new Flowkeeper();
        Tale.version(x, 0, ACT, 0, 0, ACT, 1, 0);
        for (int i = 0; i < 3; i++) {
            x.start(0, 0, 0);
        }
        x.decide(2, 1);
        x.tick(1);
        x.decide(1, 1);
        x.decide(0, 1);
        Tale.does(x, 0, 2100, 0);
        x.decide(2, 1);
        // All of one tick: the one that was decided first.
        Tale.does(x, 0, 1100, 0);
        Tale.does(x, 0, 100, 0);
        Tale.does(x, 0, 2101, 0);
    }

    /** An activity that is ready again has not been ready all the time. */
    private static void readyAgain() {
        Flowkeeper x = new Flowkeeper();
        Tale.version(x, 0, ACT, 0, 0);
        for (int i = 0; i < 3; i++) {
            x.start(0, 0, 0);
        }
        x.decide(0, 1);
        Check.due("take", 100, () -> x.take(0, 0));
        Check.due("fail", 1, () -> x.fail(0));
        Check.due("it rests", 0, () -> x.ready(0));
        x.tick(1);
        x.decide(1, 1);
        x.tick(1);
        x.decide(2, 1);
        Check.due("ready", 3, () -> x.ready(0));
        Check.due("ready for one tick", 1100, () -> x.take(0, 0));
        Check.due("decided first", 100, () -> x.take(1, 0));
        Check.due("decided later", 2100, () -> x.take(2, 0));
    }

    private static void tenants() {
        Flowkeeper x = ten(3);
        Tale.does(x, 0, 100, 0);
        Tale.does(x, 0, 1100, 0);
        Tale.does(x, 0, 2100, 0);
        Tale.does(x, 0, 3100, 0);
        Tale.does(x, 0, 4100, 0);
        x.decide(2, 1);
        x.decide(4, 1);
        // The tenant 2 has had fewer, and of its two the 5 has been decided first.
        Tale.does(x, 0, 5100, 0);
        Tale.does(x, 0, 6100, 0);
        Check.due("taken of 0", 3, () -> x.taken(0, 0));
        Check.due("taken of 1", 2, () -> x.taken(0, 1));
        Check.due("taken of 2", 2, () -> x.taken(0, 2));
        Tale.does(x, 0, 7100, 0);
        Tale.does(x, 0, 8100, 0);
        x.tick(1);
        Tale.does(x, 0, 9100, 0);
        Tale.does(x, 0, 4101, 0);
        Tale.does(x, 0, 2101, 0);
        Check.due("none is ready", NONE, () -> x.take(0, 0));
        // One that was not there gets all until it has had as many.
        Flowkeeper y = new Flowkeeper();
        Tale.version(y, 0, SIDE, 3, 0, ACT, 0, 0, ACT, 0, 0, ACT, 0, 0);
        y.start(0, 0, 0);
        y.decide(0, 1);
        Tale.does(y, 0, 100, 0);
        Tale.does(y, 0, 101, 0);
        y.start(0, 1, 0);
        y.decide(1, 1);
        Tale.does(y, 0, 1100, 0);
        Tale.does(y, 0, 1101, 0);
        Tale.does(y, 0, 102, 0);
        Tale.does(y, 0, 1102, 0);
    }

    /** Every queue counts for itself, and every try counts. */
    private static void tenantsByQueue() {
        Flowkeeper x = new Flowkeeper();
        Tale.version(x, 0, SIDE, 3, 0, ACT, 0, 0, ACT, 0, 0, ACT, 0, 1);
        x.start(0, 1, 0);
        x.start(0, 0, 0);
        x.decide(0, 1);
        Check.due("take", 100, () -> x.take(0, 0));
        Check.due("fail", 1, () -> x.fail(0));
        x.tick(2);
        Check.due("take", 101, () -> x.take(0, 0));
        Check.due("taken of 1 from 0", 2, () -> x.taken(0, 1));
        Check.due("taken of 1 from 1", 0, () -> x.taken(1, 1));
        x.decide(1, 1);
        Check.due("the lowest tenant of the other queue", 1102, () -> x.take(1, 1));
        Check.due("take", 1100, () -> x.take(2, 0));
        Check.due("take", 1101, () -> x.take(3, 0));
        Check.due("taken of 0 from 0", 2, () -> x.taken(0, 0));
        Check.due("taken of 0 from 1", 1, () -> x.taken(1, 0));
        Check.due("ready", 1, () -> x.ready(0));
        Check.due("ready", 1, () -> x.ready(1));
    }

    private static void names() {
        Flowkeeper x = new Flowkeeper();
        Tale.version(x, 0, SIDE, 3, 0, ACT, 0, 1, ACT, 0, 1, ACT, 0, 1, AGAIN, 0, 0);
        x.start(0, 0, 0);
        x.start(0, 0, 0);
        for (int run = 1; run <= 9; run++) {
            x.decide(1, 1);
            for (int i = 0; i < 3; i++) {
                Tale.does(x, 1, 1000 + 100 * run + i, 0);
            }
            x.tick(1);
            x.decide(1, 1);
        }
    }

    private static void leases() {
        Flowkeeper x = Tale.started(0, ACT, 0, 0);
        x.decide(0, 1);
        x.tick(5);
        Check.due("take", 100, () -> x.take(1, 0));
        Check.due("ready", 0, () -> x.ready(0));
        x.tick(9);
        Check.due("has", 100, () -> x.has(1));
        x.tick(1);
        Check.due("the lease has ended", NONE, () -> x.has(1));
        Check.state("too late", () -> x.end(1, 0));
        Check.due("it rests", 0, () -> x.ready(0));
        x.tick(1);
        Check.due("it rests", 0, () -> x.ready(0));
        x.tick(1);
        Check.due("ready 2 ticks later", 1, () -> x.ready(0));
        Check.due("take", 100, () -> x.take(0, 0));
        x.tick(10);
        x.tick(3);
        Check.due("it rests", 0, () -> x.ready(0));
        x.tick(1);
        Check.due("ready 4 ticks later", 1, () -> x.ready(0));
        Check.due("take", 100, () -> x.take(0, 0));
        x.tick(9);
        Check.due("events", 3, () -> x.events(0, 1));
        x.tick(1);
        Tale.behind(x, 0, 3, "LOST 0 0");
        Check.due("has", NONE, () -> x.has(0));
        x.tick(50);
        Check.due("ready", 0, () -> x.ready(0));
    }

    private static void beats() {
        Flowkeeper x = Tale.started(0, ACT, 0, 0);
        x.decide(0, 1);
        x.take(0, 0);
        Check.due("beat", 10, () -> x.beat(0));
        x.tick(9);
        Check.due("beat", 19, () -> x.beat(0));
        Check.due("beat", 19, () -> x.beat(0));
        x.tick(9);
        Check.due("has", 100, () -> x.has(0));
        x.tick(1);
        Check.due("has", NONE, () -> x.has(0));
        Check.state("beat too late", () -> x.beat(0));
    }

    private static void tries() {
        Flowkeeper x = Tale.started(0, ACT, 0, 0);
        x.decide(0, 1);
        for (int i = 1; i <= 3; i++) {
            int n = i;
            Check.due("take", 100, () -> x.take(0, 0));
            Check.due("fail", n, () -> x.fail(0));
            Check.due("has", NONE, () -> x.has(0));
            Check.state("fail again", () -> x.fail(0));
            if (i < 3) {
                x.tick(2 * i - 1);
                Check.due("it rests", 0, () -> x.ready(0));
                x.tick(1);
                Check.due("it is ready", 1, () -> x.ready(0));
            }
        }
        Tale.behind(x, 0, 3, "LOST 0 0");
        Check.due("taken", 3, () -> x.taken(0, 0));
    }

    /** Tries that failed and leases that ended count alike. */
    private static void mixedTries() {
        Flowkeeper x = Tale.started(0, ACT, 0, 0);
        x.decide(0, 1);
        x.take(0, 0);
        x.tick(12);
        x.take(0, 0);
        Check.due("fail", 2, () -> x.fail(0));
        x.tick(4);
        Check.due("take", 100, () -> x.take(0, 0));
        Check.holds("the third try may end well", () -> Check.truth(x.end(0, 4)));
        Tale.behind(x, 0, 3, "DONE 0 4");
    }

    private static void tooLate() {
        Flowkeeper x = Tale.started(0, ACT, 0, 0, ACT, 1, 0);
        x.decide(0, 1);
        x.take(0, 0);
        x.tick(12);
        Check.due("another worker takes it", 100, () -> x.take(1, 0));
        Check.due("the first one has nothing", NONE, () -> x.has(0));
        Check.state("end of the first one", () -> x.end(0, 1));
        Check.holds("end of the second one", () -> Check.truth(x.end(1, 2)));
        Tale.behind(x, 0, 3, "DONE 0 2");
    }

    private static void stops() {
        Flowkeeper x = Tale.started(0, ACT, 0, 0);
        x.decide(0, 1);
        Check.due("stop without an activity", 0, () -> Check.truth(x.run(2, false)));
        Check.state("take of one that does not run", () -> x.take(2, 0));
        Check.due("stop again", 0, () -> Check.truth(x.run(2, false)));
        Check.due("start again", 0, () -> Check.truth(x.run(2, true)));
        Check.due("take", 100, () -> x.take(2, 0));
        Check.holds("start while it runs and has one", () -> Check.truth(x.run(2, true)));
        Check.due("it has it still", 100, () -> x.has(2));
        Check.holds("stop with an activity", () -> Check.truth(x.run(2, false)));
        Check.due("it forgets it", NONE, () -> x.has(2));
        Check.state("beat", () -> x.beat(2));
        Check.due("it is still leased", 0, () -> x.ready(0));
        Check.due("start again: it has nothing", 0, () -> Check.truth(x.run(2, true)));
        Check.due("has", NONE, () -> x.has(2));
        x.tick(11);
        Check.due("the lease goes on", 0, () -> x.ready(0));
        x.tick(1);
        Check.due("and ends", 1, () -> x.ready(0));
        Check.due("take", 100, () -> x.take(2, 0));
        Check.due("the second try", 2, () -> x.fail(2));
        x.tick(4);
        x.take(2, 0);
        x.run(2, false);
        x.tick(10);
        Tale.behind(x, 0, 3, "LOST 0 0");
    }

    private static void ends() {
        Flowkeeper x = Tale.started(0, SIDE, 2, 0, ACT, 0, 0, ACT, 1, 0, ACT, 2, 1);
        x.decide(0, 1);
        x.take(0, 0);
        x.take(1, 0);
        Check.holds("end", () -> Check.truth(x.end(1, -99)));
        Check.holds("end", () -> Check.truth(x.end(0, 99)));
        Tale.behind(x, 0, 4, "DONE 1 -99, DONE 0 99");
        Check.due("has", NONE, () -> x.has(0));
        x.tick(20);
        Check.due("ready", 0, () -> x.ready(0));
        Check.due("events", 6, () -> x.events(0, 1));
    }

    private static void ticks() {
        Flowkeeper x = new Flowkeeper();
        for (int ticks : new int[] {-1, 0, 51, Integer.MIN_VALUE, Integer.MAX_VALUE}) {
            Check.argument("tick(" + ticks + ")", () -> x.tick(ticks));
        }
        Check.due("clock", 0, x::clock);
        Check.due("tick(1)", 1, () -> x.tick(1));
        Check.due("tick(50)", 51, () -> x.tick(50));
        Check.due("clock", 51, x::clock);
        Check.due("tick(7)", 58, () -> x.tick(7));
    }

    /** Timers fire ahead of leases that end, by rising numbers, whatever the ticks of a call. */
    private static void orderInTick() {
        Flowkeeper x = Tale.started(0, SIDE, 3, 0, TIMER, 10, 0, ACT, 1, 0, WAIT, 0, 10);
        x.decide(0, 1);
        Tale.loseTwice(x, 100);
        x.take(0, 0);
        x.tick(4);
        Tale.behind(x, 0, 5, "FIRED 0 0, FIRED 1 0");
        x.tick(50);
        Tale.behind(x, 0, 7, "LOST 0 0");
        // Both of a tick in which a third lease ends and a timer is due.
        Flowkeeper z = Tale.started(0, SIDE, 3, 0, ACT, 0, 0, TIMER, 16, 0, ACT, 0, 0);
        z.decide(0, 1);
        Tale.loseTwice(z, 100, 101);
        z.take(1, 0);
        z.take(0, 0);
        z.tick(10);
        Tale.behind(z, 0, 5, "FIRED 0 0, LOST 0 0, LOST 1 0");
    }
}
