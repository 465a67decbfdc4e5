/** Analyses and simulates end-to-end transactions on fixed-priority processors and one bus. */
public final class HolisticRta {
    public static final int BUS = 8;
    public static final int NONE = -1;
    public static final int UNBOUNDED = -1;
    public static final int NO_BOUND_YET = -2;
    public static final int NOT_ANALYSED = 0;
    public static final int ADMITTED = 1;
    public static final int REFUSED = 2;
    public static final int OK = 0;
    public static final int ERR_FULL = -10;
    public static final int ERR_NO_TX = -11;
    public static final int ERR_NO_STEP = -12;
    public static final int ERR_RESOURCE = -13;
    public static final int ERR_RANGE = -14;
    public static final int ERR_DUPLICATE = -15;
    public static final int ERR_INCOMPLETE = -16;
    public static final int TX_CAPACITY = 8;
    public static final int MAX_PERIOD = 200;
    public static final int MAX_COST = 20;
    public static final int MAX_PRIORITY = 100;
    public static final int MAX_TICKS = 1000;
    public static final int HORIZON = 100000;

    private static final int MAX_PROCESSORS = 4;
    private static final int MIN_STEP_CAPACITY = 4;
    private static final int MAX_STEP_CAPACITY = 16;
    // The bus keeps its own number as its slot, so the slots between the processors and it stay idle.
    private static final int RESOURCE_SLOTS = 9;
    // Every pass but the last raises one of at most 16 bounds, and none can rise more than
    // MAX_PERIOD + 1 times: some 3200 passes are the most that any configuration can need.
    private static final int MAX_PASSES = 1000000;

    private final int processors;
    private final int stepCapacity;

    private int txCount = 0;
    private final int[] period = new int[TX_CAPACITY];
    private final int[] deadline = new int[TX_CAPACITY];
    private final int[] head = new int[TX_CAPACITY];
    private final int[] tail = new int[TX_CAPACITY];
    private final int[] offset = new int[TX_CAPACITY];
    private final int[] extraGap = new int[TX_CAPACITY];

    private int stepCount = 0;
    private final int[] txOf = new int[MAX_STEP_CAPACITY];
    private final int[] resourceOf = new int[MAX_STEP_CAPACITY];
    private final int[] cost = new int[MAX_STEP_CAPACITY];
    private final int[] priority = new int[MAX_STEP_CAPACITY];
    private final int[] pred = new int[MAX_STEP_CAPACITY];
    private final int[] next = new int[MAX_STEP_CAPACITY];

    private int state = NOT_ANALYSED;
    // UNBOUNDED stands for INF. The contents mean nothing while the state is NOT_ANALYSED.
    private final int[] bound = new int[MAX_STEP_CAPACITY];

    private int time = 0;
    private final int[] nextArrival = new int[TX_CAPACITY];
    private final boolean[] inFlight = new boolean[TX_CAPACITY];
    private final int[] arrivedAt = new int[TX_CAPACITY];
    private final int[] completed = new int[TX_CAPACITY];
    private final int[] overruns = new int[TX_CAPACITY];
    private final int[] txMax = new int[TX_CAPACITY];
    private final int[] remaining = new int[MAX_STEP_CAPACITY];
    private final int[] stepMax = new int[MAX_STEP_CAPACITY];
    private int frame = NONE;
    private final int[] lastRunner = new int[RESOURCE_SLOTS];

    public HolisticRta(int processors, int stepCapacity) {
        this.processors = clamp(processors, 1, MAX_PROCESSORS);
        this.stepCapacity = clamp(stepCapacity, MIN_STEP_CAPACITY, MAX_STEP_CAPACITY);
        resetSimulation();
    }

    public int addTransaction(int period, int deadline) {
        if (txCount >= TX_CAPACITY) {
            return ERR_FULL;
        }
        if (!within(period, 1, MAX_PERIOD)) {
            return ERR_RANGE;
        }
        if (!within(deadline, 1, period)) {
            return ERR_RANGE;
        }
        int tx = txCount;
        this.period[tx] = period;
        this.deadline[tx] = deadline;
        head[tx] = NONE;
        tail[tx] = NONE;
        offset[tx] = 0;
        extraGap[tx] = 0;
        txCount = tx + 1;
        configurationChanged();
        return tx;
    }

    public int addStep(int tx, int resource, int cost, int priority) {
        if (!isTransaction(tx)) {
            return ERR_NO_TX;
        }
        if (stepCount >= stepCapacity) {
            return ERR_FULL;
        }
        if (!isResource(resource)) {
            return ERR_RESOURCE;
        }
        if (!within(cost, 1, MAX_COST)) {
            return ERR_RANGE;
        }
        if (!within(priority, 1, MAX_PRIORITY)) {
            return ERR_RANGE;
        }
        if (isPriorityTaken(resource, priority)) {
            return ERR_DUPLICATE;
        }
        int step = stepCount;
        txOf[step] = tx;
        resourceOf[step] = resource;
        this.cost[step] = cost;
        this.priority[step] = priority;
        stepCount = step + 1;
        appendToChain(tx, step);
        configurationChanged();
        return step;
    }

    public int setArrivals(int tx, int offset, int extraGap) {
        if (!isTransaction(tx)) {
            return ERR_NO_TX;
        }
        if (!within(offset, 0, MAX_PERIOD)) {
            return ERR_RANGE;
        }
        if (!within(extraGap, 0, MAX_PERIOD)) {
            return ERR_RANGE;
        }
        this.offset[tx] = offset;
        this.extraGap[tx] = extraGap;
        resetSimulation();
        return OK;
    }

    public int analyse() {
        if (!isComplete()) {
            return ERR_INCOMPLETE;
        }
        // Rising from the bottom, and never past what the equations ask, ends at the least fixpoint.
        for (int s = 0; s < stepCount; s++) {
            bound[s] = 0;
        }
        boolean raised = true;
        for (int pass = 0; raised && pass < MAX_PASSES; pass++) {
            raised = raiseBounds();
        }
        state = areAllBounded() ? ADMITTED : REFUSED;
        return state;
    }

    public int analysisState() {
        return state;
    }

    public int stepBound(int step) {
        if (!isStep(step)) {
            return ERR_NO_STEP;
        }
        return state == NOT_ANALYSED ? NO_BOUND_YET : bound[step];
    }

    public int transactionBound(int tx) {
        if (!isTransaction(tx)) {
            return ERR_NO_TX;
        }
        // An analysed configuration is COMPLETE, so beyond this test every transaction has a tail.
        return state == NOT_ANALYSED ? NO_BOUND_YET : bound[tail[tx]];
    }

    public int run(int ticks) {
        if (!isComplete()) {
            return ERR_INCOMPLETE;
        }
        int wanted = clamp(ticks, 0, MAX_TICKS);
        int done = 0;
        while (done < wanted && time < HORIZON) {
            tick();
            done++;
        }
        return done;
    }

    public int now() {
        return time;
    }

    public int observedMax(int tx) {
        return isTransaction(tx) ? txMax[tx] : ERR_NO_TX;
    }

    public int completedCount(int tx) {
        return isTransaction(tx) ? completed[tx] : ERR_NO_TX;
    }

    public int overrunCount(int tx) {
        return isTransaction(tx) ? overruns[tx] : ERR_NO_TX;
    }

    public int stepObservedMax(int step) {
        return isStep(step) ? stepMax[step] : ERR_NO_STEP;
    }

    public int stepRemaining(int step) {
        return isStep(step) ? remaining[step] : ERR_NO_STEP;
    }

    public int runningOn(int resource) {
        return isResource(resource) ? lastRunner[resource] : ERR_RESOURCE;
    }

    // ---- arguments ----

    private static int clamp(int value, int least, int most) {
        if (value < least) {
            return least;
        }
        return value > most ? most : value;
    }

    private static boolean within(int value, int least, int most) {
        return value >= least && value <= most;
    }

    private static int greater(int a, int b) {
        return a > b ? a : b;
    }

    private boolean isTransaction(int tx) {
        return tx >= 0 && tx < txCount;
    }

    private boolean isStep(int step) {
        return step >= 0 && step < stepCount;
    }

    private boolean isResource(int resource) {
        return resource == BUS || (resource >= 0 && resource < processors);
    }

    // ---- configuration ----

    private boolean isPriorityTaken(int resource, int wanted) {
        for (int s = 0; s < stepCount; s++) {
            if (resourceOf[s] == resource && priority[s] == wanted) {
                return true;
            }
        }
        return false;
    }

    private void appendToChain(int tx, int step) {
        int last = tail[tx];
        pred[step] = last;
        next[step] = NONE;
        if (last == NONE) {
            head[tx] = step;
        } else {
            next[last] = step;
        }
        tail[tx] = step;
    }

    private boolean isComplete() {
        for (int x = 0; x < txCount; x++) {
            if (head[x] == NONE) {
                return false;
            }
        }
        return txCount > 0;
    }

    private void configurationChanged() {
        state = NOT_ANALYSED;
        resetSimulation();
    }

    // ---- analysis ----

    private boolean raiseBounds() {
        boolean raised = false;
        for (int s = 0; s < stepCount; s++) {
            int asked = askedBound(s);
            if (asked != bound[s]) {
                bound[s] = asked;
                raised = true;
            }
        }
        return raised;
    }

    private boolean areAllBounded() {
        for (int s = 0; s < stepCount; s++) {
            if (bound[s] == UNBOUNDED) {
                return false;
            }
        }
        return true;
    }

    /** F(R)(step) for the vector R that the bounds are now. */
    private int askedBound(int step) {
        if (hasUnboundedJitter(step)) {
            return UNBOUNDED;
        }
        boolean onBus = resourceOf[step] == BUS;
        int outside = jitter(step);
        int base = cost[step];
        int lead = 0;
        if (onBus) {
            outside += cost[step];
            base = longestBlocking(step);
            lead = 1;
        }
        int window = leastWindow(step, base, lead, deadline[txOf[step]] - outside);
        return window == NONE ? UNBOUNDED : outside + window;
    }

    private int jitter(int step) {
        return pred[step] == NONE ? 0 : bound[pred[step]];
    }

    private boolean hasUnboundedJitter(int step) {
        for (int j = 0; j < stepCount; j++) {
            if ((j == step || isMoreUrgent(j, step)) && jitter(j) == UNBOUNDED) {
                return true;
            }
        }
        return false;
    }

    private boolean isMoreUrgent(int j, int step) {
        return resourceOf[j] == resourceOf[step] && priority[j] > priority[step];
    }

    /** B of a bus step: its own cost, or that of a less urgent step if that is greater. */
    private int longestBlocking(int step) {
        int longest = cost[step];
        for (int k = 0; k < stepCount; k++) {
            if (isMoreUrgent(step, k)) {
                longest = greater(longest, cost[k]);
            }
        }
        return longest;
    }

    /** The least w with f(w) = w, or NONE if there is none up to most: a greater one breaks the deadline. */
    private int leastWindow(int step, int base, int lead, int most) {
        for (int w = 0; w <= most; w++) {
            int demand = base + interference(step, w + lead);
            if (demand == w) {
                return w;
            }
        }
        return NONE;
    }

    private int interference(int step, int span) {
        int sum = 0;
        for (int j = 0; j < stepCount; j++) {
            if (isMoreUrgent(j, step)) {
                int reach = span + jitter(j);
                sum += ceilDiv(reach, period[txOf[j]]) * cost[j];
            }
        }
        return sum;
    }

    /** The least integer that is not below a / b, for a >= 0. Every period is 1 or more. */
    private static int ceilDiv(int a, int b) {
        return b < 1 ? 0 : (a + b - 1) / b;
    }

    // ---- simulation ----

    private void resetSimulation() {
        time = 0;
        for (int x = 0; x < txCount; x++) {
            nextArrival[x] = offset[x];
            inFlight[x] = false;
            completed[x] = 0;
            overruns[x] = 0;
            txMax[x] = NONE;
        }
        for (int s = 0; s < stepCount; s++) {
            remaining[s] = 0;
            stepMax[s] = NONE;
        }
        frame = NONE;
        for (int r = 0; r < RESOURCE_SLOTS; r++) {
            lastRunner[r] = NONE;
        }
    }

    private void tick() {
        takeArrivals();
        execute();
        takeCompletions();
        time++;
    }

    private void takeArrivals() {
        for (int x = 0; x < txCount; x++) {
            if (nextArrival[x] == time) {
                arrive(x);
            }
        }
    }

    private void arrive(int tx) {
        if (inFlight[tx]) {
            overruns[tx]++;
        } else {
            inFlight[tx] = true;
            arrivedAt[tx] = time;
            start(head[tx]);
        }
        nextArrival[tx] = time + period[tx] + extraGap[tx];
    }

    private void start(int step) {
        remaining[step] = cost[step];
    }

    private void execute() {
        for (int p = 0; p < processors; p++) {
            int runner = mostUrgentPending(p);
            work(p, runner);
        }
        // A frame keeps the bus until it is done: only a free bus looks at priorities.
        if (frame == NONE) {
            frame = mostUrgentPending(BUS);
        }
        work(BUS, frame);
    }

    private int mostUrgentPending(int resource) {
        int best = NONE;
        for (int s = 0; s < stepCount; s++) {
            boolean pending = resourceOf[s] == resource && remaining[s] > 0;
            if (pending && (best == NONE || priority[s] > priority[best])) {
                best = s;
            }
        }
        return best;
    }

    private void work(int resource, int runner) {
        lastRunner[resource] = runner;
        if (runner != NONE) {
            remaining[runner]--;
        }
    }

    private void takeCompletions() {
        for (int s = 0; s < stepCount; s++) {
            // Only the last runners worked in this tick: an idle step has no work left either.
            if (lastRunner[resourceOf[s]] == s && remaining[s] == 0) {
                complete(s);
            }
        }
    }

    private void complete(int step) {
        int tx = txOf[step];
        int response = time + 1 - arrivedAt[tx];
        stepMax[step] = greater(stepMax[step], response);
        if (step == frame) {
            frame = NONE;
        }
        if (next[step] == NONE) {
            inFlight[tx] = false;
            completed[tx]++;
            txMax[tx] = greater(txMax[tx], response);
        } else {
            start(next[step]);
        }
    }
}
