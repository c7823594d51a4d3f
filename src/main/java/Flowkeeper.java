/**
 * An engine of long workflows, as ../shared/DOC.md promises it.
 *
 * No run is held in the middle of its way: its history is all that is kept. A decision plays the history again from
 * its beginning (Player), holds what the program does against what was decided then (Decisions), and only then puts
 * down what is new and lets it have its effects (putDown and what it calls).
 */
public final class Flowkeeper {
    public static final int NONE = -1;
    public static final int MISMATCH = -2;

    public static final int ACT = 0, TIMER = 1, WAIT = 2, CHILD = 3, SIDE = 4, SKIP = 5, BACK = 6, SET = 7, ADD = 8,
            UNDO = 9, MARK = 10, GUARD = 11, TELL = 12, FAIL = 13, AGAIN = 14, END = 15;

    public static final int STARTED = 0, DONE = 1, LOST = 2, FIRED = 3, SIGNAL = 4, CHILD_OVER = 5, CANCEL = 6,
            DECIDED = 7, ACTIVITY = 8, ACTIVITY_OFF = 9, TIMER_SET = 10, TIMER_OFF = 11, CHILD_MADE = 12,
            MARKED = 13, TOLD = 14, UNDOING = 15, OVER = 16;

    public static final int RUNNING = 20, ENDED = 21, FAILED = 22, CANCELLED = 23, STOPPED = 24;

    private static final int TYPES = 3;
    private static final int TENANTS = 3;
    private static final int QUEUES = 2;
    private static final int WORKERS = 4;
    private static final int SIGNALS = 3;
    private static final int PROPERTIES = 2;

    private static final int MOST_VERSIONS = 4;
    private static final int MOST_STEPS = 12;
    private static final int MOST_WORKFLOWS = 10;
    private static final int MOST_RUNS = 9;
    private static final int MOST_VALUE = 99;
    private static final int MOST_REGISTER = 999;
    private static final int MOST_SIDE_STEPS = 3;
    private static final int MOST_STEPS_GONE = 60;
    private static final int MOST_RATE = 9;
    private static final int MOST_TICKS = 50;
    private static final int MOST_TRIES = 3;
    private static final int LEASE = 10;

    private static final int MOST_EVENTS = 80;
    private static final int MOST_EVENTS_RUNNING = 77;
    /** A history of so many events takes nothing more that happens, so that DECIDED and OVER find room. */
    private static final int FULL_OF_EVENTS = 78;

    /** The second number of a TELL that tells the register. */
    private static final int REGISTER_TOLD = 100;
    /** The second numbers of a CHILD that does not simply go on. */
    private static final int IS_CANCELLED_TOO = 1, IS_STOPPED_TOO = 2;
    /** What runs fail with by themselves. */
    private static final int ACTIVITY_LOST = 1, RUNS_USED_UP = 7, HISTORY_TOO_LONG = 8, STEPS_USED_UP = 9;
    private static final int NO_FAILURE = 0;

    /** How it is with a played run: BACKS_OUT has to decide its next UNDOING or its OVER, UNDOES waits for one. */
    private static final int GOES_ON = 0, WAITS = 1, BACKS_OUT = 2, UNDOES = 3, IS_OVER = 4;
    /** How it is with an activity. */
    private static final int IS_READY = 0, IS_LEASED = 1, RESTS = 2, IS_GONE = 3;
    /** A tick in which no timer can be due any more. */
    private static final int NEVER = 0;

    /** The range of the two numbers of a step, by its kind. */
    private static final int[] LEAST_A = {0, 1, 0, 0, 1, -99, -99, -99, -99, 0, 0, 1, 0, 1, 0, 0};
    private static final int[] MOST_A = {5, 50, 2, 2, 3, 99, 99, 99, 99, 5, 3, 11, 1, 9, 0, 0};
    private static final int[] LEAST_B = {0, 0, 0, 0, 0, 1, 1, 0, 0, 0, 1, 0, -99, 0, 0, 0};
    private static final int[] MOST_B = {1, 0, 50, 2, 0, 11, 11, 0, 0, 1, 11, 0, 100, 0, 0, 0};

    private final Family[] families = new Family[TYPES];
    private final Workflow[] flows = new Workflow[MOST_WORKFLOWS];
    private final Queue[] lines = new Queue[QUEUES];
    private final Worker[] hands = new Worker[WORKERS];
    private final Player player = new Player();
    private int flowCount;
    private int activitiesDecided;
    private int now;

    public Flowkeeper() {
        for (int i = 0; i < TYPES; i++) {
            families[i] = new Family();
        }
        for (int i = 0; i < QUEUES; i++) {
            lines[i] = new Queue();
        }
        for (int i = 0; i < WORKERS; i++) {
            hands[i] = new Worker();
        }
    }

    // ---- programs

    public int step(int type, int kind, int a, int b)
            throws IndexOutOfBoundsException, IllegalArgumentException, IllegalStateException {
        Family family = familyOf(type);
        if (!isStep(kind, a, b)) {
            throw new IllegalArgumentException("kind, a or b is out of range");
        }
        if (family.count >= MOST_VERSIONS || family.told.size >= MOST_STEPS) {
            throw new IllegalStateException("it has 12 steps, or there are 4 versions");
        }
        family.told.add(kind, a, b);
        return family.told.size;
    }

    public int forget(int type) throws IndexOutOfBoundsException {
        Family family = familyOf(type);
        int steps = family.told.size;
        family.told.size = 0;
        return steps;
    }

    public int release(int type) throws IndexOutOfBoundsException, IllegalStateException {
        Family family = familyOf(type);
        if (!family.told.isWhole()) {
            throw new IllegalStateException("no steps, or one that leads to where there is none");
        }
        family.releaseTold();
        return family.count;
    }

    public int versions(int type) throws IndexOutOfBoundsException {
        return familyOf(type).count;
    }

    // ---- workflows

    public int start(int type, int tenant, int value)
            throws IndexOutOfBoundsException, IllegalArgumentException, IllegalStateException {
        if (!isWithin(type, 0, TYPES - 1) || !isWithin(tenant, 0, TENANTS - 1)) {
            throw new IndexOutOfBoundsException("there is no such type or tenant");
        }
        if (!isWithin(value, -MOST_VALUE, MOST_VALUE)) {
            throw new IllegalArgumentException("value is out of range");
        }
        if (flowCount >= MOST_WORKFLOWS) {
            throw new IllegalStateException("there are 10 workflows");
        }
        Workflow flow = new Workflow(flowCount, type, tenant, value);
        addFlow(flow);
        return flow.number;
    }

    public boolean signal(int workflow, int which, int value)
            throws IndexOutOfBoundsException, IllegalArgumentException {
        Workflow flow = flowOf(workflow);
        if (!isWithin(which, 0, SIGNALS - 1) || !isWithin(value, -MOST_VALUE, MOST_VALUE)) {
            throw new IllegalArgumentException("which or value is out of range");
        }
        return flow.latest.happen(SIGNAL, which, value);
    }

    public boolean cancel(int workflow) throws IndexOutOfBoundsException {
        return flowOf(workflow).latest.askCancel();
    }

    public int decide(int workflow, int version) throws IndexOutOfBoundsException, IllegalStateException {
        Workflow flow = flowOf(workflow);
        Program program = programOf(flow, version);
        Run run = flow.latest;
        if (run.state != RUNNING) {
            throw new IllegalStateException("the latest run is not RUNNING");
        }
        if (!run.hasNews()) {
            return NONE;
        }
        if (!player.play(program, run.history, flow.runCount, true)) {
            return MISMATCH;
        }
        putDown(flow, version);
        closeIfOver(flow);
        run.tellUnmade();
        return player.decisions.count;
    }

    // ---- activities

    public int setRate(int queue, int rate) throws IndexOutOfBoundsException, IllegalArgumentException {
        Queue line = lineOf(queue);
        if (!isWithin(rate, 1, MOST_RATE)) {
            throw new IllegalArgumentException("rate is out of range");
        }
        int before = line.rate;
        line.rate = rate;
        return before;
    }

    public int take(int worker, int queue) throws IndexOutOfBoundsException, IllegalStateException {
        Worker hand = handOf(worker);
        Queue line = lineOf(queue);
        if (!hand.isAtWork || hand.activity != null) {
            throw new IllegalStateException("the worker does not run, or has an activity");
        }
        if (line.takenInTick >= line.rate) {
            return NONE;
        }
        Activity next = nextOn(line, queue);
        if (next == null) {
            return NONE;
        }
        line.countTaken(next.tenant);
        next.lease(now + LEASE);
        hand.activity = next;
        return next.name;
    }

    public int has(int worker) throws IndexOutOfBoundsException {
        Activity activity = handOf(worker).activity;
        return activity == null ? NONE : activity.name;
    }

    public int beat(int worker) throws IndexOutOfBoundsException, IllegalStateException {
        Activity activity = activityOf(handOf(worker));
        activity.until = now + LEASE;
        return activity.until;
    }

    public boolean end(int worker, int result)
            throws IndexOutOfBoundsException, IllegalArgumentException, IllegalStateException {
        Worker hand = handOf(worker);
        if (!isWithin(result, -MOST_VALUE, MOST_VALUE)) {
            throw new IllegalArgumentException("result is out of range");
        }
        Activity activity = activityOf(hand);
        takeOff(activity);
        return activity.home.happen(DONE, activity.number, result);
    }

    public int fail(int worker) throws IndexOutOfBoundsException, IllegalStateException {
        Activity activity = activityOf(handOf(worker));
        loseTry(activity);
        return activity.tries;
    }

    public boolean run(int worker, boolean runs) throws IndexOutOfBoundsException {
        Worker hand = handOf(worker);
        boolean had = hand.activity != null;
        hand.isAtWork = runs;
        if (!runs) {
            hand.activity = null;
        }
        return had;
    }

    public int ready(int queue) throws IndexOutOfBoundsException {
        checkQueue(queue);
        int count = 0;
        for (int i = 0; i < flowCount; i++) {
            count += flows[i].latest.countReady(queue);
        }
        return count;
    }

    public int taken(int queue, int tenant) throws IndexOutOfBoundsException {
        Queue line = lineOf(queue);
        if (!isWithin(tenant, 0, TENANTS - 1)) {
            throw new IndexOutOfBoundsException("there is no such tenant");
        }
        return line.takenBy[tenant];
    }

    // ---- time

    public int tick(int ticks) throws IllegalArgumentException {
        if (!isWithin(ticks, 1, MOST_TICKS)) {
            throw new IllegalArgumentException("ticks is out of range");
        }
        for (int i = 0; i < ticks; i++) {
            passTick();
        }
        return now;
    }

    public int clock() {
        return now;
    }

    // ---- what is asked

    public int workflows() {
        return flowCount;
    }

    public int parent(int workflow) throws IndexOutOfBoundsException {
        return flowOf(workflow).parent;
    }

    public int runs(int workflow) throws IndexOutOfBoundsException {
        return flowOf(workflow).runCount;
    }

    public int state(int workflow, int run) throws IndexOutOfBoundsException {
        return runOf(workflow, run).state;
    }

    public int events(int workflow, int run) throws IndexOutOfBoundsException {
        return runOf(workflow, run).history.size;
    }

    public int eventKind(int workflow, int run, int place) throws IndexOutOfBoundsException {
        return historyWith(workflow, run, place).kinds[place];
    }

    public int eventNumber(int workflow, int run, int place, boolean isFirst) throws IndexOutOfBoundsException {
        History history = historyWith(workflow, run, place);
        return isFirst ? history.firsts[place] : history.seconds[place];
    }

    public int property(int workflow, int property) throws IndexOutOfBoundsException, IllegalArgumentException {
        Workflow flow = flowOf(workflow);
        checkProperty(property);
        return flow.properties[property];
    }

    public int found(int property, int low, int high) throws IllegalArgumentException {
        checkProperty(property);
        if (low > high) {
            throw new IllegalArgumentException("low is greater than high");
        }
        int count = 0;
        for (int i = 0; i < flowCount; i++) {
            if (flows[i].latest.state == RUNNING && isWithin(flows[i].properties[property], low, high)) {
                count++;
            }
        }
        return count;
    }

    public boolean isDue(int workflow) throws IndexOutOfBoundsException {
        Run run = flowOf(workflow).latest;
        return run.state == RUNNING && run.hasNews();
    }

    public int register(int workflow) throws IndexOutOfBoundsException {
        return flowOf(workflow).latest.register;
    }

    public int place(int workflow) throws IndexOutOfBoundsException {
        return flowOf(workflow).latest.place;
    }

    public int registerAnew(int workflow, int version) throws IndexOutOfBoundsException {
        Workflow flow = flowOf(workflow);
        Program program = programOf(flow, version);
        if (!player.play(program, flow.latest.history, flow.runCount, false)) {
            return MISMATCH * 1000;
        }
        return player.register;
    }

    // ---- what the arguments name

    private static boolean isWithin(int value, int least, int most) {
        return value >= least && value <= most;
    }

    private static boolean isStep(int kind, int a, int b) {
        return isWithin(kind, ACT, END) && isWithin(a, LEAST_A[kind], MOST_A[kind])
                && isWithin(b, LEAST_B[kind], MOST_B[kind]);
    }

    private Family familyOf(int type) {
        if (!isWithin(type, 0, TYPES - 1)) {
            throw new IndexOutOfBoundsException("there is no such type");
        }
        return families[type];
    }

    private Workflow flowOf(int workflow) {
        if (!isWithin(workflow, 0, flowCount - 1)) {
            throw new IndexOutOfBoundsException("there is no such workflow");
        }
        return flows[workflow];
    }

    private Program programOf(Workflow flow, int version) {
        Family family = familyOf(flow.type);
        if (!isWithin(version, 1, family.count)) {
            throw new IndexOutOfBoundsException("there is no such version");
        }
        return family.released[version - 1];
    }

    private Run runOf(int workflow, int run) {
        Workflow flow = flowOf(workflow);
        if (!isWithin(run, 1, flow.runCount)) {
            throw new IndexOutOfBoundsException("there is no such run");
        }
        return flow.rounds[run - 1];
    }

    private History historyWith(int workflow, int run, int event) {
        History history = runOf(workflow, run).history;
        if (!isWithin(event, 0, history.size - 1)) {
            throw new IndexOutOfBoundsException("there is no such event");
        }
        return history;
    }

    private static void checkQueue(int queue) {
        if (!isWithin(queue, 0, QUEUES - 1)) {
            throw new IndexOutOfBoundsException("there is no such queue");
        }
    }

    private Queue lineOf(int queue) {
        checkQueue(queue);
        return lines[queue];
    }

    private Worker handOf(int worker) {
        if (!isWithin(worker, 0, WORKERS - 1)) {
            throw new IndexOutOfBoundsException("there is no such worker");
        }
        return hands[worker];
    }

    private static Activity activityOf(Worker hand) {
        if (hand.activity == null) {
            throw new IllegalStateException("the worker has no activity");
        }
        return hand.activity;
    }

    private static void checkProperty(int property) {
        if (!isWithin(property, 0, PROPERTIES - 1)) {
            throw new IllegalArgumentException("property is out of range");
        }
    }

    // ---- what is decided takes effect

    private void addFlow(Workflow flow) {
        if (flowCount < MOST_WORKFLOWS) {
            flows[flowCount] = flow;
            flowCount++;
        }
    }

    /** Puts what was decided anew behind the history of the latest run, with all that it does but ending the run. */
    private void putDown(Workflow flow, int version) {
        Run run = flow.latest;
        Decisions decided = player.decisions;
        int length = run.history.size + 1 + decided.count;
        if (length > (player.isOver() ? MOST_EVENTS : MOST_EVENTS_RUNNING)) {
            decided.failTooLong();
        } else {
            run.register = player.register;
            run.place = player.waitingPlace();
        }
        run.history.put(DECIDED, version, 0);
        for (int i = 0; i < decided.count && i < MOST_EVENTS; i++) {
            run.history.put(decided.kinds[i], decided.firsts[i], decided.seconds[i]);
            takeEffect(flow, decided.kinds[i], decided.firsts[i], decided.seconds[i]);
        }
    }

    private void takeEffect(Workflow flow, int kind, int first, int second) {
        Run run = flow.latest;
        switch (kind) {
            case ACTIVITY:
            case UNDOING:
                run.addActivity(new Activity(flow, second, activitiesDecided, now));
                activitiesDecided++;
                break;
            case ACTIVITY_OFF:
                if (isWithin(first, 0, run.activityCount - 1)) {
                    takeOff(run.activities[first]);
                }
                break;
            case TIMER_SET:
                run.addTimer(now + first);
                break;
            case TIMER_OFF:
                run.dropTimer(first);
                break;
            case CHILD_MADE:
                makeChild(flow, first, second);
                break;
            case TOLD:
                flow.tell(first, second);
                break;
            default:
                break;
        }
    }

    private void makeChild(Workflow flow, int type, int fate) {
        Run run = flow.latest;
        if (flowCount < MOST_WORKFLOWS) {
            // The run has waited for the child ever since, so its register is still the one of that moment.
            Workflow child = new Workflow(flowCount, type, flow.tenant, run.register);
            child.parent = flow.number;
            child.parentRun = flow.runCount;
            child.numberAsChild = run.childCount;
            child.fate = fate;
            addFlow(child);
        } else {
            run.unmadeCount++;
        }
        run.childCount++;
    }

    private void closeIfOver(Workflow flow) {
        History history = flow.latest.history;
        int last = history.size - 1;
        if (!isWithin(last, 0, MOST_EVENTS - 1) || history.kinds[last] != OVER) {
            return;
        }
        int state = history.firsts[last];
        int result = history.seconds[last];
        flow.latest.stop(state);
        letGo(flow, 0);
        if (state == AGAIN) {
            beginAgain(flow, result);
        } else if (isWithin(flow.parent, 0, flowCount - 1) && flows[flow.parent].runCount == flow.parentRun) {
            flows[flow.parent].latest.happen(CHILD_OVER, flow.numberAsChild, state == ENDED ? result : NONE);
        }
    }

    /** What becomes of all that a run has begun when it is over or STOPPED. */
    private void letGo(Workflow flow, int depth) {
        Run run = flow.latest;
        for (int i = 0; i < run.activityCount; i++) {
            takeOff(run.activities[i]);
        }
        for (int i = 0; i < run.timerCount; i++) {
            run.dropTimer(i);
        }
        for (int i = 0; i < flowCount; i++) {
            Workflow child = flows[i];
            if (child.parent == flow.number && child.parentRun == flow.runCount && child.latest.state == RUNNING) {
                leaveChild(child, depth);
            }
        }
    }

    private void leaveChild(Workflow child, int depth) {
        if (child.fate == IS_CANCELLED_TOO) {
            child.latest.askCancel();
        }
        if (child.fate == IS_STOPPED_TOO && depth < MOST_WORKFLOWS) {
            child.latest.stop(STOPPED);
            letGo(child, depth + 1);
        }
    }

    private void beginAgain(Workflow flow, int register) {
        Run before = flow.latest;
        flow.beginRun(register);
        for (int i = 0; i < before.history.size && i < MOST_EVENTS; i++) {
            if (before.history.kinds[i] == SIGNAL && !player.isTaken[i]) {
                flow.latest.happen(SIGNAL, before.history.firsts[i], before.history.seconds[i]);
            }
        }
        // A cancel that had done anything would have cut the run: it would not be AGAIN.
        if (before.isCancelAsked) {
            flow.latest.askCancel();
        }
    }

    // ---- what becomes of activities

    private Activity nextOn(Queue line, int queue) {
        Activity next = null;
        for (int i = 0; i < flowCount; i++) {
            Run run = flows[i].latest;
            for (int j = 0; j < run.activityCount; j++) {
                Activity activity = run.activities[j];
                if (activity.isReadyOn(queue) && (next == null || line.prefers(activity, next))) {
                    next = activity;
                }
            }
        }
        return next;
    }

    /** The activity is over, and whoever has it has nothing any more. */
    private void takeOff(Activity activity) {
        activity.condition = IS_GONE;
        freeHandsOf(activity);
    }

    private void freeHandsOf(Activity activity) {
        for (int i = 0; i < WORKERS; i++) {
            if (hands[i].activity == activity) {
                hands[i].activity = null;
            }
        }
    }

    private void loseTry(Activity activity) {
        if (activity.tries >= MOST_TRIES) {
            takeOff(activity);
            activity.home.happen(LOST, activity.number, 0);
        } else {
            freeHandsOf(activity);
            activity.condition = RESTS;
            activity.until = now + 2 * activity.tries;
        }
    }

    // ---- what a tick does

    private void passTick() {
        now++;
        for (int i = 0; i < QUEUES; i++) {
            lines[i].takenInTick = 0;
        }
        for (int i = 0; i < flowCount; i++) {
            flows[i].latest.fireTimers(now);
        }
        for (int i = 0; i < flowCount; i++) {
            endLeases(flows[i].latest);
        }
        for (int i = 0; i < flowCount; i++) {
            flows[i].latest.wakeActivities(now);
        }
    }

    private void endLeases(Run run) {
        for (int i = 0; i < run.activityCount; i++) {
            Activity activity = run.activities[i];
            if (activity.condition == IS_LEASED && activity.until <= now) {
                loseTry(activity);
            }
        }
    }

    /** A type: its released versions, and the one that is being told. */
    private static final class Family {
        final Program[] released = new Program[MOST_VERSIONS];
        int count;
        Program told = new Program();

        void releaseTold() {
            if (count < MOST_VERSIONS) {
                released[count] = told;
                count++;
                told = new Program();
            }
        }
    }

    /** The steps of a version. */
    private static final class Program {
        final int[] kinds = new int[MOST_STEPS];
        final int[] firsts = new int[MOST_STEPS];
        final int[] seconds = new int[MOST_STEPS];
        int size;

        void add(int kind, int first, int second) {
            if (size < MOST_STEPS) {
                kinds[size] = kind;
                firsts[size] = first;
                seconds[size] = second;
                size++;
            }
        }

        boolean isWhole() {
            for (int i = 0; i < size && i < MOST_STEPS; i++) {
                if (!leadsWithin(i, firsts[i], seconds[i])) {
                    return false;
                }
            }
            return size > 0;
        }

        private boolean leadsWithin(int at, int first, int second) {
            switch (kinds[at]) {
                case SKIP:
                case MARK:
                    return at + 1 + second <= size;
                case BACK:
                    return at - second >= 0;
                case SIDE:
                    return canBeginTogether(at + 1, first);
                default:
                    return true;
            }
        }

        private boolean canBeginTogether(int from, int count) {
            for (int i = from; i < from + count; i++) {
                if (i >= size || i >= MOST_STEPS || kinds[i] > CHILD) {
                    return false;
                }
            }
            return true;
        }
    }

    /** The events of a run. */
    private static final class History {
        final int[] kinds = new int[MOST_EVENTS];
        final int[] firsts = new int[MOST_EVENTS];
        final int[] seconds = new int[MOST_EVENTS];
        int size;

        void put(int kind, int first, int second) {
            if (size < MOST_EVENTS) {
                kinds[size] = kind;
                firsts[size] = first;
                seconds[size] = second;
                size++;
            }
        }
    }

    private static final class Workflow {
        final int number;
        final int type;
        final int tenant;
        final int[] properties = new int[PROPERTIES];
        final Run[] rounds = new Run[MOST_RUNS];
        int runCount = 1;
        Run latest;
        int parent = NONE;
        int parentRun = NONE;
        int numberAsChild = NONE;
        /** What happens to it when its parent ends, as CHILD tells it. */
        int fate;

        Workflow(int number, int type, int tenant, int register) {
            this.number = number;
            this.type = type;
            this.tenant = tenant;
            latest = new Run(register);
            rounds[0] = latest;
        }

        void beginRun(int register) {
            if (runCount < MOST_RUNS) {
                latest = new Run(register);
                rounds[runCount] = latest;
                runCount++;
            }
        }

        void tell(int property, int value) {
            if (property >= 0 && property < PROPERTIES) {
                properties[property] = value;
            }
        }
    }

    private static final class Run {
        final History history = new History();
        final Activity[] activities = new Activity[MOST_EVENTS];
        /** The ticks in which the timers are due. */
        final int[] timers = new int[MOST_EVENTS];
        int activityCount;
        int timerCount;
        int childCount;
        /** How many of the latest children found all workflows used up, and are not told to be over yet. */
        int unmadeCount;
        int state = RUNNING;
        int register;
        int place = NONE;
        boolean isCancelAsked;

        Run(int value) {
            history.put(STARTED, value, 0);
        }

        /** Returns whether it happens; otherwise it is lost. */
        boolean happen(int kind, int first, int second) {
            if (state != RUNNING || history.size >= FULL_OF_EVENTS) {
                return false;
            }
            history.put(kind, first, second);
            return true;
        }

        boolean askCancel() {
            if (isCancelAsked || !happen(CANCEL, 0, 0)) {
                return false;
            }
            isCancelAsked = true;
            return true;
        }

        void tellUnmade() {
            for (int i = childCount - unmadeCount; i < childCount; i++) {
                happen(CHILD_OVER, i, NONE);
            }
            unmadeCount = 0;
        }

        /** What is decided stands right behind its DECIDED, so the last event tells whether anything came later. */
        boolean hasNews() {
            int last = history.size - 1;
            return last >= 0 && last < MOST_EVENTS && history.kinds[last] < DECIDED;
        }

        void stop(int lastState) {
            state = lastState;
            place = NONE;
        }

        void addActivity(Activity activity) {
            if (activityCount < MOST_EVENTS) {
                activities[activityCount] = activity;
                activityCount++;
            }
        }

        int countReady(int queue) {
            int count = 0;
            for (int i = 0; i < activityCount; i++) {
                if (activities[i].isReadyOn(queue)) {
                    count++;
                }
            }
            return count;
        }

        void wakeActivities(int now) {
            for (int i = 0; i < activityCount; i++) {
                activities[i].wake(now);
            }
        }

        void addTimer(int due) {
            if (timerCount < MOST_EVENTS) {
                timers[timerCount] = due;
                timerCount++;
            }
        }

        void dropTimer(int timer) {
            if (timer >= 0 && timer < timerCount) {
                timers[timer] = NEVER;
            }
        }

        void fireTimers(int now) {
            for (int i = 0; i < timerCount; i++) {
                if (timers[i] == now) {
                    timers[i] = NEVER;
                    happen(FIRED, i, 0);
                }
            }
        }
    }

    private static final class Activity {
        final Run home;
        final int number;
        final int queue;
        final int tenant;
        /** How many activities of all workflows were decided ahead of it. */
        final int order;
        /** As take() tells it. */
        final int name;
        int condition = IS_READY;
        int readySince;
        /** The tick in which its lease ends, or in which it has rested. */
        int until;
        int tries;

        Activity(Workflow flow, int queue, int order, int now) {
            home = flow.latest;
            number = home.activityCount;
            this.queue = queue;
            tenant = flow.tenant;
            this.order = order;
            name = 1000 * flow.number + 100 * flow.runCount + number;
            readySince = now;
        }

        boolean isReadyOn(int line) {
            return condition == IS_READY && queue == line;
        }

        void lease(int lastTick) {
            condition = IS_LEASED;
            until = lastTick;
            tries++;
        }

        void wake(int now) {
            if (condition == RESTS && until <= now) {
                condition = IS_READY;
                readySince = now;
            }
        }
    }

    private static final class Queue {
        final int[] takenBy = new int[TENANTS];
        int rate = MOST_RATE;
        int takenInTick;

        void countTaken(int tenant) {
            takenInTick++;
            if (tenant >= 0 && tenant < TENANTS) {
                takenBy[tenant]++;
            }
        }

        boolean prefers(Activity one, Activity other) {
            if (countOf(one.tenant) != countOf(other.tenant)) {
                return countOf(one.tenant) < countOf(other.tenant);
            }
            if (one.tenant != other.tenant) {
                return one.tenant < other.tenant;
            }
            if (one.readySince != other.readySince) {
                return one.readySince < other.readySince;
            }
            return one.order < other.order;
        }

        private int countOf(int tenant) {
            return tenant >= 0 && tenant < TENANTS ? takenBy[tenant] : 0;
        }
    }

    private static final class Worker {
        boolean isAtWork = true;
        Activity activity;
    }

    /** A step that a played run waits for: what it has begun (NONE if it has not), and what came of it. */
    private static final class Slot {
        int kind;
        int activity;
        int timer;
        int child;
        int which;
        int result;
        boolean isOver;
        boolean isLost;

        void clear(int kindOfStep) {
            kind = kindOfStep;
            activity = NONE;
            timer = NONE;
            child = NONE;
            which = NONE;
            result = 0;
            isOver = false;
            isLost = false;
        }

        void become(int value, boolean lost) {
            result = value;
            isOver = true;
            isLost = lost;
        }
    }

    /**
     * What a played run decides. Ahead of a DECIDED of its history this must be just what follows there; behind the
     * latest one it is new, and kept here.
     */
    private static final class Decisions {
        final int[] kinds = new int[MOST_EVENTS];
        final int[] firsts = new int[MOST_EVENTS];
        final int[] seconds = new int[MOST_EVENTS];
        /** More may be counted than are kept: no history has room for those. */
        int count;
        int activities;
        int timers;
        int children;
        /** Whether there is a DECIDED ahead. */
        boolean isAgain;
        boolean differs;
        History past = new History();
        /** The place in the history of what must be decided next, and the place behind the last of these. */
        private int at;
        private int behind;

        void begin(History history) {
            past = history;
            count = 0;
            activities = 0;
            timers = 0;
            children = 0;
            differs = false;
            lookAhead(0);
        }

        /** At a DECIDED: by now all that follows it must have been decided again. */
        void closePart() {
            if (at != behind) {
                differs = true;
            }
            lookAhead(behind);
        }

        private void lookAhead(int from) {
            int next = from;
            while (next < past.size && next < MOST_EVENTS && past.kinds[next] != DECIDED) {
                next++;
            }
            isAgain = next < past.size;
            at = next + 1;
            behind = at;
            while (behind < past.size && behind < MOST_EVENTS && past.kinds[behind] > DECIDED) {
                behind++;
            }
        }

        boolean isNextAgain(int kind, int first) {
            return isAgain && at < behind && at < MOST_EVENTS && past.kinds[at] == kind && past.firsts[at] == first;
        }

        void put(int kind, int first, int second) {
            activities += kind == ACTIVITY || kind == UNDOING ? 1 : 0;
            timers += kind == TIMER_SET ? 1 : 0;
            children += kind == CHILD_MADE ? 1 : 0;
            if (!isAgain) {
                if (count < MOST_EVENTS) {
                    kinds[count] = kind;
                    firsts[count] = first;
                    seconds[count] = second;
                }
                count++;
            } else if (at < behind && at < MOST_EVENTS && past.kinds[at] == kind && past.firsts[at] == first
                    && past.seconds[at] == second) {
                at++;
            } else {
                differs = true;
            }
        }

        void failTooLong() {
            count = 0;
            put(OVER, FAILED, HISTORY_TOO_LONG);
        }
    }

    /** Plays a run from its history. */
    private static final class Player {
        final Decisions decisions = new Decisions();
        /** Which signals were taken, by their places in the history. */
        final boolean[] isTaken = new boolean[MOST_EVENTS];
        int register;
        private final Slot[] slots = new Slot[MOST_SIDE_STEPS];
        /** What is to be undone, in a ring: each UNDOING is an event, so no history has room to undo the older ones. */
        private final int[] undoKinds = new int[MOST_EVENTS];
        private final int[] undoQueues = new int[MOST_EVENTS];
        /** A bit for each mark that was MARKED. */
        private int marked;
        private Program program = new Program();
        private int runNumber;
        private int phase;
        private int place;
        /** The step behind those that are waited for. */
        private int next;
        private int slotCount;
        private int guardsLeft;
        private boolean isGuarded;
        private boolean isCutAsked;
        private int undoCount;
        /** The number of the UNDOING that is waited for. */
        private int undoing;
        /** With what it fails when all is undone; NO_FAILURE if it is cut. */
        private int failure;
        /** How many events of the history were heard: what is behind them has not happened yet. */
        private int heard;

        Player() {
            for (int i = 0; i < MOST_SIDE_STEPS; i++) {
                slots[i] = new Slot();
            }
        }

        boolean isOver() {
            return phase == IS_OVER;
        }

        int waitingPlace() {
            return phase == WAITS ? place : NONE;
        }

        /**
         * Plays what happened ahead of the latest DECIDED, and if asked what has happened since.
         * Returns whether the program does what was decided.
         */
        boolean play(Program version, History past, int run, boolean alsoSince) {
            begin(version, past, run);
            for (int i = 0; i < past.size && i < MOST_EVENTS && !decisions.differs; i++) {
                int kind = past.kinds[i];
                if (kind == DECIDED) {
                    decisions.closePart();
                } else if (kind < DECIDED && (decisions.isAgain || alsoSince)) {
                    heard = i + 1;
                    hear(kind, past.firsts[i], past.seconds[i]);
                    goOn();
                }
            }
            return !decisions.differs;
        }

        private void begin(Program version, History past, int run) {
            program = version;
            runNumber = run;
            decisions.begin(past);
            for (int i = 0; i < MOST_EVENTS; i++) {
                isTaken[i] = false;
            }
            register = 0;
            marked = 0;
            phase = GOES_ON;
            place = 0;
            next = 0;
            slotCount = 0;
            guardsLeft = 0;
            isGuarded = false;
            isCutAsked = false;
            undoCount = 0;
            undoing = NONE;
            failure = NO_FAILURE;
            heard = 0;
        }

        private void hear(int kind, int first, int second) {
            switch (kind) {
                case STARTED:
                    register = first;
                    break;
                case DONE:
                case LOST:
                    hearActivity(first, second, kind == LOST);
                    break;
                case FIRED:
                    hearTimer(first);
                    break;
                case SIGNAL:
                    hearSignal(first, second);
                    break;
                case CHILD_OVER:
                    hearChild(first, second);
                    break;
                case CANCEL:
                    hearCancel();
                    break;
                default:
                    break;
            }
        }

        private void hearActivity(int activity, int result, boolean isLost) {
            if (phase == UNDOES && activity == undoing) {
                phase = BACKS_OUT;
            }
            for (int i = 0; i < slotCount; i++) {
                if (slots[i].activity == activity) {
                    slots[i].become(result, isLost);
                }
            }
        }

        private void hearTimer(int timer) {
            for (int i = 0; i < slotCount; i++) {
                if (slots[i].timer == timer && !slots[i].isOver) {
                    slots[i].become(NONE, false);
                }
            }
        }

        private void hearSignal(int which, int value) {
            for (int i = 0; i < slotCount; i++) {
                Slot slot = slots[i];
                if (slot.which == which && !slot.isOver) {
                    slot.become(value, false);
                    noteTaken(heard - 1);
                    if (slot.timer != NONE) {
                        decisions.put(TIMER_OFF, slot.timer, 0);
                    }
                    return;
                }
            }
        }

        private void noteTaken(int event) {
            if (event >= 0 && event < MOST_EVENTS) {
                isTaken[event] = true;
            }
        }

        private void hearChild(int child, int result) {
            for (int i = 0; i < slotCount; i++) {
                if (slots[i].child == child) {
                    slots[i].become(result, false);
                }
            }
        }

        private void hearCancel() {
            if (phase == WAITS) {
                isCutAsked = true;
                if (!isGuarded) {
                    cut();
                }
            }
        }

        private void cut() {
            for (int i = 0; i < slotCount; i++) {
                if (slots[i].activity != NONE && !slots[i].isOver) {
                    decisions.put(ACTIVITY_OFF, slots[i].activity, 0);
                }
            }
            for (int i = 0; i < slotCount; i++) {
                if (slots[i].timer != NONE && !slots[i].isOver) {
                    decisions.put(TIMER_OFF, slots[i].timer, 0);
                }
            }
            backOut(NO_FAILURE);
        }

        private void backOut(int number) {
            failure = number;
            slotCount = 0;
            phase = BACKS_OUT;
        }

        /** Goes on as far as it can; behind the last step that it may go there is one more turn, to back out. */
        private void goOn() {
            settle();
            for (int gone = 0; gone <= MOST_STEPS_GONE + 1 && isMoving(); gone++) {
                isGuarded = guardsLeft > 0;
                if (phase == BACKS_OUT) {
                    undoNext();
                } else if (isCutAsked && !isGuarded) {
                    cut();
                } else if (place < 0 || place >= program.size) {
                    finish(ENDED, register);
                } else if (gone >= MOST_STEPS_GONE) {
                    backOut(STEPS_USED_UP);
                } else {
                    guardsLeft = Math.max(0, guardsLeft - 1);
                    if (program.kinds[place] > SIDE) {
                        goThrough(program.kinds[place], program.firsts[place], program.seconds[place]);
                    } else {
                        beginSteps();
                    }
                }
                settle();
            }
        }

        private boolean isMoving() {
            return !decisions.differs && (phase == GOES_ON || phase == BACKS_OUT);
        }

        /** If all that was waited for is over, lets the results go to the register. */
        private void settle() {
            if (phase != WAITS) {
                return;
            }
            boolean isLost = false;
            int value = register;
            for (int i = 0; i < slotCount; i++) {
                Slot slot = slots[i];
                if (!slot.isOver) {
                    return;
                }
                if (slot.isLost) {
                    isLost = true;
                } else if (slot.kind != TIMER) {
                    value = slot.result;
                }
            }
            register = value;
            if (isLost) {
                backOut(ACTIVITY_LOST);
            } else {
                slotCount = 0;
                place = next;
                phase = GOES_ON;
            }
        }

        private void undoNext() {
            if (undoCount > 0) {
                undoCount--;
                int latest = undoCount % MOST_EVENTS;
                undoing = decisions.activities;
                decisions.put(UNDOING, undoKinds[latest], undoQueues[latest]);
                phase = UNDOES;
            } else if (failure == NO_FAILURE) {
                finish(CANCELLED, 0);
            } else {
                finish(FAILED, failure);
            }
        }

        private void finish(int state, int result) {
            decisions.put(OVER, state, result);
            phase = IS_OVER;
        }

        /** The steps for which nothing is waited. */
        private void goThrough(int kind, int a, int b) {
            int behind = place + 1;
            switch (kind) {
                case SKIP:
                    place = register < a ? behind + b : behind;
                    break;
                case BACK:
                    place = register < a ? place - b : behind;
                    break;
                case MARK:
                    place = passesMark(a) ? behind : behind + b;
                    break;
                case FAIL:
                    backOut(a);
                    break;
                case AGAIN:
                    goAgain();
                    break;
                case END:
                    finish(ENDED, register);
                    break;
                default:
                    note(kind, a, b);
                    place = behind;
                    break;
            }
        }

        /** The steps behind which it goes on with the next one, whatever they find. */
        private void note(int kind, int a, int b) {
            switch (kind) {
                case SET:
                    register = a;
                    break;
                case ADD:
                    register = Math.max(-MOST_REGISTER, Math.min(MOST_REGISTER, register + a));
                    break;
                case UNDO:
                    undoKinds[undoCount % MOST_EVENTS] = a;
                    undoQueues[undoCount % MOST_EVENTS] = b;
                    undoCount++;
                    break;
                case GUARD:
                    guardsLeft = Math.max(guardsLeft, a);
                    break;
                case TELL:
                    decisions.put(TOLD, a, b == REGISTER_TOLD ? register : b);
                    break;
                default:
                    break;
            }
        }

        private void goAgain() {
            if (runNumber < MOST_RUNS) {
                finish(AGAIN, register);
            } else {
                backOut(RUNS_USED_UP);
            }
        }

        /** A decision of an older program went on without the mark, and must go the same way again. */
        private boolean passesMark(int mark) {
            int bit = 1 << mark;
            if ((marked & bit) != 0) {
                return true;
            }
            if (decisions.isAgain && !decisions.isNextAgain(MARKED, mark)) {
                return false;
            }
            marked |= bit;
            decisions.put(MARKED, mark, 0);
            return true;
        }

        private void beginSteps() {
            boolean isSide = program.kinds[place] == SIDE;
            int first = isSide ? place + 1 : place;
            slotCount = Math.min(isSide ? Math.min(program.firsts[place], MOST_SIDE_STEPS) : 1, program.size - first);
            next = first + slotCount;
            phase = WAITS;
            for (int i = 0; i < slotCount; i++) {
                beginStep(slots[i], first + i);
            }
        }

        private void beginStep(Slot slot, int step) {
            int a = program.firsts[step];
            int b = program.seconds[step];
            slot.clear(program.kinds[step]);
            switch (slot.kind) {
                case ACT:
                    slot.activity = decisions.activities;
                    decisions.put(ACTIVITY, a, b);
                    break;
                case TIMER:
                    slot.timer = decisions.timers;
                    decisions.put(TIMER_SET, a, 0);
                    break;
                case CHILD:
                    slot.child = decisions.children;
                    decisions.put(CHILD_MADE, a, b);
                    break;
                default:
                    beginWait(slot, a, b);
                    break;
            }
        }

        private void beginWait(Slot slot, int which, int ticks) {
            History history = decisions.past;
            slot.which = which;
            for (int i = 0; i < heard && i < MOST_EVENTS; i++) {
                if (history.kinds[i] == SIGNAL && history.firsts[i] == which && !isTaken[i]) {
                    noteTaken(i);
                    slot.become(history.seconds[i], false);
                    return;
                }
            }
            if (ticks > 0) {
                slot.timer = decisions.timers;
                decisions.put(TIMER_SET, ticks, 0);
            }
        }
    }
}
