import java.util.ArrayList;
import java.util.List;

/** The document told once more, with objects and lists, to be compared with the class. */
final class Model implements Rta {
    static final long INF = Long.MAX_VALUE;

    static final class Tx {
        int id;
        int period;
        int deadline;
        int offset;
        int gap;
        List<Step> chain = new ArrayList<>();
        int nextArrival;
        boolean inFlight;
        int arrivedAt;
        int completed;
        int overruns;
        int max = -1;
    }

    static final class Step {
        int id;
        Tx tx;
        int place;
        int resource;
        int cost;
        int priority;
        int rem;
        int max = -1;

        Step pred() {
            return place == 0 ? null : tx.chain.get(place - 1);
        }

        Step next() {
            return place + 1 == tx.chain.size() ? null : tx.chain.get(place + 1);
        }
    }

    final int processors;
    final int capacity;
    final List<Tx> txs = new ArrayList<>();
    final List<Step> steps = new ArrayList<>();
    int state = 0;
    long[] bounds = new long[0];
    int now = 0;
    Step frame = null;
    Step[] last = new Step[9];

    Model(int processors, int stepCapacity) {
        this.processors = Math.max(1, Math.min(4, processors));
        this.capacity = Math.max(4, Math.min(16, stepCapacity));
    }

    @Override
    public int addTransaction(int period, int deadline) {
        if (txs.size() == 8) return -10;
        if (period < 1 || period > 200) return -14;
        if (deadline < 1 || deadline > period) return -14;
        Tx x = new Tx();
        x.id = txs.size();
        x.period = period;
        x.deadline = deadline;
        txs.add(x);
        state = 0;
        reset();
        return x.id;
    }

    @Override
    public int addStep(int tx, int resource, int cost, int priority) {
        if (!isTransaction(tx)) return -11;
        if (steps.size() == capacity) return -10;
        if (!isResource(resource)) return -13;
        if (cost < 1 || cost > 20) return -14;
        if (priority < 1 || priority > 100) return -14;
        for (Step other : steps) {
            if (other.resource == resource && other.priority == priority) return -15;
        }
        Step s = new Step();
        s.id = steps.size();
        s.tx = txs.get(tx);
        s.place = s.tx.chain.size();
        s.resource = resource;
        s.cost = cost;
        s.priority = priority;
        s.tx.chain.add(s);
        steps.add(s);
        state = 0;
        reset();
        return s.id;
    }

    @Override
    public int setArrivals(int tx, int offset, int gap) {
        if (!isTransaction(tx)) return -11;
        if (offset < 0 || offset > 200) return -14;
        if (gap < 0 || gap > 200) return -14;
        txs.get(tx).offset = offset;
        txs.get(tx).gap = gap;
        reset();
        return 0;
    }

    @Override
    public int analyse() {
        if (!isComplete()) return -16;
        long[] r = new long[steps.size()];
        long[] f = apply(r);
        while (!java.util.Arrays.equals(r, f)) {
            r = f;
            f = apply(r);
        }
        bounds = r;
        state = 1;
        for (long b : bounds) {
            if (b == INF) state = 2;
        }
        return state;
    }

    /** F(R), every component from the same R. */
    long[] apply(long[] r) {
        long[] f = new long[r.length];
        for (Step s : steps) {
            long raw = raw(s, r);
            f[s.id] = raw <= s.tx.deadline ? raw : INF;
        }
        return f;
    }

    private static long jitter(Step s, long[] r) {
        return s.pred() == null ? 0 : r[s.pred().id];
    }

    private long raw(Step s, long[] r) {
        boolean bus = s.resource == 8;
        List<Step> hp = new ArrayList<>();
        long base = s.cost;
        for (Step j : steps) {
            if (j == s || j.resource != s.resource) continue;
            if (j.priority > s.priority) hp.add(j);
            else if (bus) base = Math.max(base, j.cost);
        }
        if (jitter(s, r) == INF) return INF;
        for (Step j : hp) {
            if (jitter(j, r) == INF) return INF;
        }
        long w = 0;
        while (true) {
            long f = base;
            for (Step j : hp) {
                long a = w + jitter(j, r) + (bus ? 1 : 0);
                long times = a / j.tx.period + (a % j.tx.period == 0 ? 0 : 1);
                f += times * j.cost;
            }
            if (f == w) return jitter(s, r) + w + (bus ? s.cost : 0);
            // Far beyond every deadline: what is found here would be INF in F(R) all the same.
            if (f > 5000) return INF;
            w = f;
        }
    }

    @Override
    public int stepBound(int s) {
        if (!isStep(s)) return -12;
        if (state == 0) return -2;
        return bounds[s] == INF ? -1 : (int) bounds[s];
    }

    @Override
    public int transactionBound(int x) {
        if (!isTransaction(x)) return -11;
        if (state == 0) return -2;
        List<Step> chain = txs.get(x).chain;
        return stepBound(chain.get(chain.size() - 1).id);
    }

    @Override
    public int run(int ticks) {
        if (!isComplete()) return -16;
        int most = Math.max(0, Math.min(1000, ticks));
        int done = 0;
        for (; done < most && now < 100000; done++) {
            tick();
        }
        return done;
    }

    private void tick() {
        int t = now;
        for (Tx x : txs) {
            if (x.nextArrival != t) continue;
            if (x.inFlight) {
                x.overruns++;
            } else {
                x.inFlight = true;
                x.arrivedAt = t;
                x.chain.get(0).rem = x.chain.get(0).cost;
            }
            x.nextArrival = t + x.period + x.gap;
        }
        List<Step> decreased = new ArrayList<>();
        for (int p = 0; p < processors; p++) {
            last[p] = top(p);
            if (last[p] != null) decreased.add(last[p]);
        }
        if (frame == null) frame = top(8);
        last[8] = frame;
        if (frame != null) decreased.add(frame);
        for (Step s : decreased) s.rem--;
        decreased.sort((a, b) -> a.id - b.id);
        for (Step s : decreased) {
            if (s.rem > 0) continue;
            int response = t + 1 - s.tx.arrivedAt;
            s.max = Math.max(s.max, response);
            if (s == frame) frame = null;
            if (s.next() != null) {
                s.next().rem = s.next().cost;
            } else {
                s.tx.inFlight = false;
                s.tx.completed++;
                s.tx.max = Math.max(s.tx.max, response);
            }
        }
        now = t + 1;
    }

    private Step top(int resource) {
        Step best = null;
        for (Step s : steps) {
            if (s.resource == resource && s.rem > 0 && (best == null || s.priority > best.priority)) best = s;
        }
        return best;
    }

    boolean urgentFrameWaits() {
        return frame != null && top(8) != frame;
    }

    private void reset() {
        now = 0;
        frame = null;
        last = new Step[9];
        for (Tx x : txs) {
            x.nextArrival = x.offset;
            x.inFlight = false;
            x.completed = 0;
            x.overruns = 0;
            x.max = -1;
        }
        for (Step s : steps) {
            s.rem = 0;
            s.max = -1;
        }
    }

    private boolean isResource(int r) {
        return r == 8 || (r >= 0 && r < processors);
    }

    boolean isComplete() {
        for (Tx x : txs) {
            if (x.chain.isEmpty()) return false;
        }
        return !txs.isEmpty();
    }

    @Override
    public int analysisState() {
        return state;
    }

    @Override
    public int now() {
        return now;
    }

    @Override
    public int observedMax(int x) {
        return isTransaction(x) ? txs.get(x).max : -11;
    }

    @Override
    public int completedCount(int x) {
        return isTransaction(x) ? txs.get(x).completed : -11;
    }

    @Override
    public int overrunCount(int x) {
        return isTransaction(x) ? txs.get(x).overruns : -11;
    }

    @Override
    public int stepObservedMax(int s) {
        return isStep(s) ? steps.get(s).max : -12;
    }

    @Override
    public int stepRemaining(int s) {
        return isStep(s) ? steps.get(s).rem : -12;
    }

    @Override
    public int runningOn(int r) {
        if (!isResource(r)) return -13;
        return last[r] == null ? -1 : last[r].id;
    }

    private boolean isTransaction(int x) {
        return x >= 0 && x < txs.size();
    }

    private boolean isStep(int s) {
        return s >= 0 && s < steps.size();
    }
}
