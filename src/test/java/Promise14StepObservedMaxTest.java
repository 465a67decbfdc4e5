/** Promise 14: stepObservedMax. */
public final class Promise14StepObservedMaxTest {
    private static final int BUS = HolisticRta.BUS;

    public static void main(String[] args) {
        Ids.steps("stepObservedMax", HolisticRta.NONE);
        noneBeforeTheFirst();
        alongAChain();
        arrivalOfTheSameInstance();
        greatestNotTheLatest();
        everyStepByItself();
        leastAndGreatest();
        lateInstances();
        sinceTheLastReset();
        Ids.changesNothing("stepObservedMax");
        Check.end("Promise14StepObservedMaxTest");
    }

    private static void noneBeforeTheFirst() {
        Check.says("It is NONE if step has not completed since the last SIMULATION RESET.");
        for (int cost = 1; cost <= 20; cost++) {
            for (int resource : new int[] {0, BUS}) {
                HolisticRta x = new HolisticRta(1, 8);
                x.addTransaction(50, 50);
                x.addStep(0, resource, cost, 1);
                String what = "cost " + cost + " on " + resource;
                Check.due(what + ", before the arrival", x.stepObservedMax(0), -1);
                x.run(cost - 1);
                Check.due(what + ", one tick before", x.stepObservedMax(0), -1);
                x.run(1);
                Check.due(what + ", at the end", x.stepObservedMax(0), cost);
            }
        }
    }

    private static void alongAChain() {
        Check.says("the greatest value of c - A(tx(step)) .. over all completions of step");
        HolisticRta x = new HolisticRta(1, 8);
        x.addTransaction(20, 20);
        x.addStep(0, 0, 2, 1);
        x.addStep(0, BUS, 3, 1);
        x.addStep(0, 0, 1, 2);
        int[][] maxima = {{-1, -1, -1}, {2, -1, -1}, {2, -1, -1}, {2, -1, -1}, {2, 5, -1}, {2, 5, 6}, {2, 5, 6}};
        for (int t = 0; t < maxima.length; t++) {
            x.run(1);
            for (int s = 0; s < 3; s++) {
                Check.due("after tick " + t + ", stepObservedMax(" + s + ")", x.stepObservedMax(s), maxima[t][s]);
            }
        }
    }

    private static void arrivalOfTheSameInstance() {
        Check.says("completion time minus the arrival time of that same instance");
        HolisticRta x = new HolisticRta(2, 8);
        x.addTransaction(4, 4);
        x.addStep(0, 0, 3, 1);
        x.addStep(0, 1, 6, 1);
        x.setArrivals(0, 5, 0);
        x.run(5 + 9);
        // Dropped arrivals in between do not move the arrival of the one in flight.
        Check.due("the head", x.stepObservedMax(0), 3);
        Check.due("the tail", x.stepObservedMax(1), 9);
        x.run(500);
        Check.due("the head later", x.stepObservedMax(0), 3);
        Check.due("the tail later", x.stepObservedMax(1), 9);
        // A second instance is measured from its own arrival, not from the first one's.
        HolisticRta y = new HolisticRta(1, 8);
        y.addTransaction(200, 200);
        y.addStep(0, 0, 3, 1);
        y.setArrivals(0, 200, 200);
        y.run(1000);
        Check.due("two instances far apart, completed", y.completedCount(0), 2);
        Check.due("two instances far apart", y.stepObservedMax(0), 3);
    }

    private static void greatestNotTheLatest() {
        Check.says("This is the greatest value");
        for (int meets = 0; meets < 4; meets++) {
            HolisticRta x = new HolisticRta(1, 8);
            x.addTransaction(10, 10);
            x.addTransaction(200, 200);
            x.addStep(0, 0, 2, 1);
            x.addStep(0, BUS, 1, 1);
            x.addStep(1, 0, 5, 9);
            x.setArrivals(1, 10 * meets, 0);
            for (int i = 0; i < 5; i++) {
                x.run(10);
                Check.due("meets " + meets + ", after " + i + ", the head", x.stepObservedMax(0), i < meets ? 2 : 7);
                Check.due("meets " + meets + ", after " + i + ", the tail", x.stepObservedMax(1), i < meets ? 3 : 8);
            }
        }
    }

    private static void everyStepByItself() {
        Check.says("Otherwise: the observed maximum of step. (all sixteen)");
        HolisticRta x = new HolisticRta(4, 16);
        for (int tx = 0; tx < 4; tx++) {
            x.addTransaction(200, 200);
        }
        for (int s = 0; s < 16; s++) {
            x.addStep(s % 4, s % 4, s + 1, s + 1);
        }
        x.run(200);
        for (int s = 0; s < 16; s++) {
            // The chain of transaction s % 4 goes over the costs s % 4 + 1, + 5, + 9, + 13 on its own processor.
            int due = 0;
            for (int k = s % 4; k <= s; k += 4) {
                due += k + 1;
            }
            Check.due("stepObservedMax(" + s + ")", x.stepObservedMax(s), due);
        }
    }

    private static void leastAndGreatest() {
        Check.says("the greatest value of c - A(tx(step)) (from 1 to far above every period)");
        HolisticRta least = new HolisticRta(1, 8);
        least.addTransaction(1, 1);
        least.addStep(0, 0, 1, 1);
        least.run(1000);
        Check.due("one tick", least.stepObservedMax(0), 1);
        HolisticRta x = Situation.STARVED.make();
        for (int s = 0; s < 10; s++) {
            Check.due("200 ticks of 201, stepObservedMax(" + s + ")", x.stepObservedMax(s), 20 * (s + 1));
        }
        Check.due("one that waits for those 200", x.stepObservedMax(10), 201);
        // 20 ticks of work for each, of which 102 rounds of 201 ticks leave so many.
        for (int s = 0; s < 4; s++) {
            Check.due("the starved, stepObservedMax(" + (11 + s) + ")", x.stepObservedMax(11 + s), 20703 + s * 102 * 201);
        }
    }

    private static void lateInstances() {
        Check.says("completion time minus the arrival time of that same instance (late in the run)");
        HolisticRta x = new HolisticRta(1, 8);
        x.addTransaction(20, 20);
        x.addStep(0, 0, 7, 1);
        x.addStep(0, BUS, 5, 1);
        for (int i = 1; i <= 100; i++) {
            x.run(1000);
            Check.due("at " + x.now() + ", the head", x.stepObservedMax(0), 7);
            Check.due("at " + x.now() + ", the tail", x.stepObservedMax(1), 12);
        }
    }

    private static void sinceTheLastReset() {
        Check.says("since the last SIMULATION RESET");
        for (String how : new String[] {"setArrivals(1, 4, 0)", "addStep(1, 1, 1, 1)", "addTransaction(9, 9)"}) {
            HolisticRta x = Check.busy();
            for (int s = 0; s < 5; s++) {
                Check.due("before, stepObservedMax(" + s + ")", x.stepObservedMax(s) > 0);
            }
            new Real(x).call(how);
            for (int s = 0; s < 5; s++) {
                Check.due("after " + how + ", stepObservedMax(" + s + ")", x.stepObservedMax(s), -1);
            }
        }
        HolisticRta x = new HolisticRta(1, 8);
        x.addTransaction(10, 10);
        x.addTransaction(200, 200);
        x.addStep(0, 0, 2, 1);
        x.addStep(1, 0, 5, 9);
        x.run(50);
        Check.due("before", x.stepObservedMax(0), 7);
        x.setArrivals(1, 150, 0);
        x.run(50);
        Check.due("a smaller one after the reset", x.stepObservedMax(0), 2);
    }
}
