/** Promise 13: overrunCount. */
public final class Promise13OverrunCountTest {
    public static void main(String[] args) {
        Ids.transactions("overrunCount", 0);
        arrivalsInFlight();
        lastAndFirstThatCounts();
        anyStepOfTheChain();
        withOffsetAndGap();
        eachTransactionByItself();
        mostThereCanBe();
        sinceTheLastReset();
        Ids.changesNothing("overrunCount");
        Check.end("Promise13OverrunCountTest");
    }

    private static HolisticRta one(int period, int cost) {
        HolisticRta x = new HolisticRta(1, 8);
        x.addTransaction(period, 1);
        x.addStep(0, 0, cost, 1);
        return x;
    }

    private static void arrivalsInFlight() {
        Check.says("Otherwise: its overrun count, the number of arrivals dropped because tx was in flight");
        HolisticRta x = one(4, 9);
        // In flight from 12 k to 12 k + 9: the arrivals at 12 k + 4 and 12 k + 8 are dropped, in their own tick.
        for (int t = 1; t <= 120; t++) {
            x.run(1);
            int whole = (t - 1) / 12;
            int place = (t - 1) % 12;
            Check.due("at " + t, x.overrunCount(0), 2 * whole + (place >= 8 ? 2 : place >= 4 ? 1 : 0));
        }
    }

    private static void lastAndFirstThatCounts() {
        Check.says("the number of arrivals dropped because tx was in flight (an arrival at the very end is none)");
        for (int cost = 1; cost <= 20; cost++) {
            HolisticRta just = one(cost, cost);
            just.run(1000);
            Check.due("cost and period " + cost, just.overrunCount(0), 0);
            if (cost > 1) {
                HolisticRta over = one(cost - 1, cost);
                over.run(cost);
                Check.due("cost " + cost + ", one more than the period", over.overrunCount(0), 1);
            }
        }
    }

    private static void anyStepOfTheChain() {
        Check.says("because tx was in flight (whichever of its steps is at work or waits)");
        HolisticRta x = new HolisticRta(2, 8);
        x.addTransaction(5, 5);
        x.addStep(0, 0, 4, 1);
        x.addStep(0, 8, 4, 1);
        x.addStep(0, 1, 4, 1);
        int[] due = {0, 0, 0, 0, 0, 1, 1, 1, 1, 1, 2, 2, 2, 2, 2, 2, 2, 2, 2, 2, 3};
        for (int t = 0; t < due.length; t++) {
            x.run(1);
            Check.due("after tick " + t, x.overrunCount(0), due[t]);
        }
        HolisticRta waits = new HolisticRta(1, 8);
        waits.addTransaction(10, 10);
        waits.addTransaction(200, 200);
        waits.addStep(0, 0, 1, 1);
        waits.addStep(1, 0, 20, 9);
        waits.run(20);
        Check.due("one that waits, before its turn", waits.overrunCount(0), 1);
        waits.run(1);
        Check.due("the arrival at 20 finds it waiting still", waits.overrunCount(0), 2);
        waits.run(100);
        Check.due("none from then on", waits.overrunCount(0), 2);
    }

    private static void withOffsetAndGap() {
        Check.says("the number of arrivals dropped (arrivals with offset and gap)");
        HolisticRta x = one(3, 7);
        x.setArrivals(0, 2, 2);
        // Arrivals at 2, 7 (dropped), 12, 17 (dropped), ..
        for (int t = 1; t <= 200; t++) {
            x.run(1);
            Check.due("at " + t, x.overrunCount(0), t < 8 ? 0 : 1 + (t - 8) / 10);
        }
        HolisticRta wide = one(3, 7);
        wide.setArrivals(0, 0, 4);
        wide.run(1000);
        Check.due("a gap that leaves just enough room", wide.overrunCount(0), 0);
        HolisticRta narrow = one(3, 7);
        narrow.setArrivals(0, 0, 3);
        narrow.run(12);
        Check.due("a gap that is one too small", narrow.overrunCount(0), 1);
    }

    private static void eachTransactionByItself() {
        Check.says("Otherwise: its overrun count (each transaction by itself)");
        HolisticRta x = new HolisticRta(4, 16);
        for (int tx = 0; tx < 4; tx++) {
            x.addTransaction(10, 10);
            x.addStep(tx, tx, 5 * (tx + 1), 1);
        }
        x.run(200);
        // Costs 5, 10, 15, 20: none is dropped, none, every second, every second.
        int[] due = {0, 0, 10, 10};
        for (int tx = 0; tx < 4; tx++) {
            Check.due("overrunCount(" + tx + ")", x.overrunCount(tx), due[tx]);
        }
    }

    private static void mostThereCanBe() {
        Check.says("Otherwise: its overrun count (0 to 99999)");
        HolisticRta x = new HolisticRta(1, 4);
        x.addTransaction(1, 1);
        x.addTransaction(1, 1);
        x.addStep(0, 0, 1, 9);
        x.addStep(1, 0, 1, 1);
        for (int i = 0; i < 100; i++) {
            x.run(1000);
        }
        Check.due("one in every tick", x.overrunCount(0), 0);
        Check.due("one that never gets its turn", x.overrunCount(1), 99999);
    }

    private static void sinceTheLastReset() {
        Check.says("counted since the last SIMULATION RESET");
        for (String how : new String[] {"setArrivals(1, 0, 0)", "addStep(1, 0, 1, 50)", "addTransaction(9, 9)"}) {
            HolisticRta x = new HolisticRta(1, 8);
            x.addTransaction(3, 3);
            x.addTransaction(50, 50);
            x.addStep(0, 0, 5, 9);
            x.addStep(1, 0, 1, 1);
            x.run(50);
            Check.due("before", x.overrunCount(0), 8);
            int answer = new Real(x).call(how);
            Check.due("after " + how, x.overrunCount(0), 0);
            if (how.startsWith("addT")) {
                x.addStep(answer, 0, 1, 5);
            }
            // What was in flight before the reset is not in flight any more.
            x.run(3);
            Check.due("after " + how + " and 3 ticks", x.overrunCount(0), 0);
            x.run(1);
            Check.due("after " + how + " and 4 ticks", x.overrunCount(0), 1);
        }
    }
}
