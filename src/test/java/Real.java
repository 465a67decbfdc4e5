/** The class itself behind the interface that the model has too. */
final class Real implements Rta {
    private final HolisticRta x;

    Real(HolisticRta x) {
        this.x = x;
    }

    @Override
    public int addTransaction(int period, int deadline) {
        return x.addTransaction(period, deadline);
    }

    @Override
    public int addStep(int tx, int resource, int cost, int priority) {
        return x.addStep(tx, resource, cost, priority);
    }

    @Override
    public int setArrivals(int tx, int offset, int extraGap) {
        return x.setArrivals(tx, offset, extraGap);
    }

    @Override
    public int analyse() {
        return x.analyse();
    }

    @Override
    public int analysisState() {
        return x.analysisState();
    }

    @Override
    public int stepBound(int step) {
        return x.stepBound(step);
    }

    @Override
    public int transactionBound(int tx) {
        return x.transactionBound(tx);
    }

    @Override
    public int run(int ticks) {
        return x.run(ticks);
    }

    @Override
    public int now() {
        return x.now();
    }

    @Override
    public int observedMax(int tx) {
        return x.observedMax(tx);
    }

    @Override
    public int completedCount(int tx) {
        return x.completedCount(tx);
    }

    @Override
    public int overrunCount(int tx) {
        return x.overrunCount(tx);
    }

    @Override
    public int stepObservedMax(int step) {
        return x.stepObservedMax(step);
    }

    @Override
    public int stepRemaining(int step) {
        return x.stepRemaining(step);
    }

    @Override
    public int runningOn(int resource) {
        return x.runningOn(resource);
    }
}
