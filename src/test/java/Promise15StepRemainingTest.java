/** Promise 15: stepRemaining. */
public final class Promise15StepRemainingTest {
    private static final int BUS = HolisticRta.BUS;

    public static void main(String[] args) {
        Ids.steps("stepRemaining", 0);
        fromTheCostToZero();
        alongAChain();
        waitingAndPreempted();
        waitingForTheBus();
        zeroAfterAReset();
        Ids.changesNothing("stepRemaining");
        Check.end("Promise15StepRemainingTest");
    }

    private static void fromTheCostToZero() {
        Check.says("Otherwise: rem(step), which is 0 when the step is not pending.");
        for (int cost = 1; cost <= 20; cost++) {
            for (int resource : new int[] {0, BUS}) {
                HolisticRta x = new HolisticRta(1, 8);
                x.addTransaction(30, 30);
                x.addStep(0, resource, cost, 1);
                x.setArrivals(0, 2, 0);
                for (int t = 0; t < 70; t++) {
                    String what = "cost " + cost + " on " + resource + ", at " + t;
                    // The arrival at 2 is taken within the tick at 2: at 3 one tick is done.
                    int place = t < 3 ? 29 : (t - 3) % 30;
                    Check.due(what, x.stepRemaining(0), Math.max(0, cost - 1 - place));
                    x.run(1);
                }
            }
        }
    }

    private static void alongAChain() {
        Check.says("Otherwise: rem(step) (along a chain)");
        HolisticRta x = new HolisticRta(1, 8);
        x.addTransaction(20, 20);
        x.addStep(0, 0, 2, 1);
        x.addStep(0, BUS, 3, 1);
        x.addStep(0, 0, 1, 2);
        int[][] remaining = {{1, 0, 0}, {0, 3, 0}, {0, 2, 0}, {0, 1, 0}, {0, 0, 1}, {0, 0, 0}, {0, 0, 0}};
        for (int t = 0; t < remaining.length; t++) {
            x.run(1);
            for (int s = 0; s < 3; s++) {
                Check.due("after tick " + t + ", stepRemaining(" + s + ")", x.stepRemaining(s), remaining[t][s]);
            }
        }
    }

    private static void waitingAndPreempted() {
        Check.says("Otherwise: rem(step) (a step that is preempted keeps what is left)");
        HolisticRta x = new HolisticRta(1, 8);
        x.addTransaction(30, 30);
        x.addTransaction(30, 30);
        x.addStep(0, 0, 5, 1);
        x.addStep(1, 0, 2, 9);
        x.setArrivals(1, 2, 0);
        int[][] remaining = {{4, 0}, {3, 0}, {3, 1}, {3, 0}, {2, 0}, {1, 0}, {0, 0}};
        for (int t = 0; t < remaining.length; t++) {
            x.run(1);
            Check.due("after tick " + t + ", the preempted", x.stepRemaining(0), remaining[t][0]);
            Check.due("after tick " + t + ", the urgent", x.stepRemaining(1), remaining[t][1]);
        }
        HolisticRta never = new HolisticRta(1, 8);
        never.addTransaction(1, 1);
        never.addTransaction(9, 9);
        never.addStep(0, 0, 1, 9);
        never.addStep(1, 0, 20, 1);
        never.run(1000);
        Check.due("one that never gets its turn keeps its whole cost", never.stepRemaining(1), 20);
    }

    private static void waitingForTheBus() {
        Check.says("Otherwise: rem(step) (a frame that waits keeps its whole cost)");
        HolisticRta y = new HolisticRta(1, 8);
        y.addTransaction(100, 100);
        y.addTransaction(100, 100);
        y.addStep(0, BUS, 20, 1);
        y.addStep(1, BUS, 7, 9);
        y.setArrivals(1, 1, 0);
        for (int t = 1; t <= 30; t++) {
            y.run(1);
            Check.due("at " + t + ", the frame", y.stepRemaining(0), Math.max(0, 20 - t));
            Check.due("at " + t + ", the other", y.stepRemaining(1), t < 2 ? 0 : Math.max(0, Math.min(7, 27 - t)));
        }
    }

    private static void zeroAfterAReset() {
        Check.says("rem(step), which is 0 when the step is not pending. (after a reset)");
        for (String how : new String[] {"setArrivals(1, 4, 0)", "addStep(1, 1, 1, 1)", "addTransaction(9, 9)"}) {
            for (Situation where : new Situation[] {Situation.NOT_ANALYSED, Situation.ADMITTED, Situation.REFUSED}) {
                HolisticRta x = where.make();
                int work = 0;
                for (int s = 0; s < 5; s++) {
                    work += x.stepRemaining(s);
                }
                Check.due(where.name + ", there is work", work > 0);
                new Real(x).call(how);
                for (int s = 0; s < 5; s++) {
                    Check.due(where.name + ", after " + how + ", stepRemaining(" + s + ")", x.stepRemaining(s), 0);
                }
            }
        }
    }
}
