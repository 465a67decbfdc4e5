/** Promise 11: observedMax. */
public final class Promise11ObservedMaxTest {
    private static final int BUS = HolisticRta.BUS;

    public static void main(String[] args) {
        Ids.transactions("observedMax", HolisticRta.NONE);
        noneBeforeTheFirst();
        greatestNotTheLatest();
        tailsAlone();
        fromTheArrivalOfTheInstance();
        leastAndGreatest();
        lateInstances();
        sinceTheLastReset();
        keptWhileNothingCompletes();
        Ids.changesNothing("observedMax");
        Check.end("Promise11ObservedMaxTest");
    }

    private static HolisticRta one(int period, int cost) {
        HolisticRta x = new HolisticRta(1, 8);
        x.addTransaction(period, period);
        x.addStep(0, 0, cost, 1);
        return x;
    }

    private static void noneBeforeTheFirst() {
        Check.says("It is NONE if no instance has completed since the last SIMULATION RESET.");
        HolisticRta empty = new HolisticRta(1, 4);
        empty.addTransaction(10, 10);
        Check.due("a transaction without a step", empty.observedMax(0), -1);
        for (int cost = 1; cost <= 20; cost++) {
            HolisticRta x = one(50, cost);
            Check.due("cost " + cost + ", before the arrival", x.observedMax(0), -1);
            x.run(cost - 1);
            Check.due("cost " + cost + ", one tick before", x.observedMax(0), -1);
            x.run(1);
            Check.due("cost " + cost + ", at the end", x.observedMax(0), cost);
        }
        HolisticRta never = new HolisticRta(1, 4);
        never.addTransaction(1, 1);
        never.addTransaction(5, 5);
        never.addStep(0, 0, 1, 9);
        never.addStep(1, 0, 1, 1);
        never.run(1000);
        Check.due("one that never gets its turn", never.observedMax(1), -1);
        Check.due("the one that keeps it from it", never.observedMax(0), 1);
    }

    /** An urgent transaction of cost 5 meets the instance of transaction 0 that arrives at its offset. */
    private static void greatestNotTheLatest() {
        Check.says("the greatest c - A(tx) over completions of its tail");
        for (int meets = 0; meets < 4; meets++) {
            HolisticRta x = new HolisticRta(1, 8);
            x.addTransaction(10, 10);
            x.addTransaction(200, 200);
            x.addStep(0, 0, 2, 1);
            x.addStep(1, 0, 5, 9);
            x.setArrivals(1, 10 * meets, 0);
            for (int i = 0; i < 5; i++) {
                x.run(10);
                Check.due("meets " + meets + ", after instance " + i, x.observedMax(0), i < meets ? 2 : 7);
            }
            Check.due("the urgent", x.observedMax(1), 5);
        }
    }

    private static void tailsAlone() {
        Check.says("over completions of its tail");
        HolisticRta x = new HolisticRta(2, 8);
        x.addTransaction(40, 40);
        x.addStep(0, 0, 3, 1);
        x.addStep(0, BUS, 4, 1);
        x.addStep(0, 1, 5, 1);
        for (int t = 1; t <= 14; t++) {
            x.run(1);
            Check.due("at " + t, x.observedMax(0), t < 12 ? -1 : 12);
        }
    }

    private static void fromTheArrivalOfTheInstance() {
        Check.says("c - A(tx)");
        for (int offset : new int[] {0, 1, 6, 199, 200}) {
            HolisticRta x = one(9, 4);
            x.setArrivals(0, offset, 3);
            x.run(offset + 4);
            Check.due("offset " + offset + ", the first", x.observedMax(0), 4);
            x.run(500);
            Check.due("offset " + offset + ", later ones", x.observedMax(0), 4);
        }
        // The arrivals at 3 and 6 are dropped: the instance is still that of 0.
        HolisticRta late = one(3, 7);
        late.run(7);
        Check.due("dropped arrivals in between", late.observedMax(0), 7);
        late.run(900);
        Check.due("and later", late.observedMax(0), 7);
    }

    private static void leastAndGreatest() {
        Check.says("the greatest c - A(tx) (from 1 to far above every period)");
        HolisticRta least = one(1, 1);
        least.run(1000);
        Check.due("one tick", least.observedMax(0), 1);
        HolisticRta x = Situation.STARVED.make();
        Check.due("200 ticks of 201", x.observedMax(0), 200);
        Check.due("one that gets 80 ticks in all that time", x.observedMax(1), 82209);
        Check.due("one that waits for those 200", x.observedMax(2), 201);
    }

    private static void lateInstances() {
        Check.says("c - A(tx) (of instances that arrive late in the run)");
        HolisticRta x = one(20, 7);
        x.setArrivals(0, 5, 0);
        for (int i = 1; i <= 100; i++) {
            x.run(1000);
            Check.due("at " + x.now(), x.observedMax(0), 7);
        }
        // Nothing is seen before 200, and then one instance in 400 ticks.
        HolisticRta y = one(200, 20);
        y.setArrivals(0, 200, 200);
        for (int i = 1; i <= 100; i++) {
            y.run(1000);
            Check.due("a wide pattern, at " + y.now(), y.observedMax(0), 20);
        }
    }

    private static void sinceTheLastReset() {
        Check.says("since the last SIMULATION RESET");
        for (String how : new String[] {"setArrivals(1, 150, 0)", "addStep(1, 0, 1, 50)", "addTransaction(9, 9)"}) {
            HolisticRta x = new HolisticRta(1, 8);
            x.addTransaction(10, 10);
            x.addTransaction(200, 200);
            x.addStep(0, 0, 2, 1);
            x.addStep(1, 0, 5, 9);
            x.run(50);
            Check.due("before", x.observedMax(0), 7);
            new Real(x).call(how);
            Check.due("after " + how + ", observedMax(0)", x.observedMax(0), -1);
            Check.due("after " + how + ", observedMax(1)", x.observedMax(1), -1);
        }
        HolisticRta x = new HolisticRta(1, 8);
        x.addTransaction(10, 10);
        x.addTransaction(200, 200);
        x.addStep(0, 0, 2, 1);
        x.addStep(1, 0, 5, 9);
        x.run(50);
        x.setArrivals(1, 150, 0);
        x.run(50);
        Check.due("a smaller one after the reset", x.observedMax(0), 2);
    }

    private static void keptWhileNothingCompletes() {
        Check.says("the observed maximum of tx (kept while nothing completes)");
        HolisticRta x = one(200, 6);
        x.run(6);
        for (int i = 0; i < 20; i++) {
            Check.due("at " + x.now(), x.observedMax(0), 6);
            x.run(9);
        }
    }
}
