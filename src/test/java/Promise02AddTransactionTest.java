/** Promise 2: addTransaction. */
public final class Promise02AddTransactionTest {
    public static void main(String[] args) {
        ranges();
        eightAtMost();
        refusedChangesNothing();
        isConfigurationChange();
        othersAreKept();
        newOneHasNoStepsNorOffset();
        periodAndDeadlineTakeEffect();
        Check.end("Promise02AddTransactionTest");
    }

    private static void ranges() {
        int[][] rows = {
            {0, 0, -14}, {0, 1, -14}, {-1, 1, -14}, {-1, -1, -14}, {201, 1, -14}, {201, 201, -14},
            {Integer.MIN_VALUE, 1, -14}, {Integer.MAX_VALUE, 1, -14},
            {1, 0, -14}, {1, 1, 0}, {1, 2, -14}, {50, 0, -14}, {50, -1, -14}, {50, 1, 0}, {50, 49, 0}, {50, 50, 0},
            {50, 51, -14}, {200, 200, 0}, {200, 1, 0}, {200, 201, -14},
            {50, Integer.MIN_VALUE, -14}, {50, Integer.MAX_VALUE, -14},
        };
        for (int[] row : rows) {
            HolisticRta x = new HolisticRta(1, 4);
            String what = "addTransaction(" + row[0] + ", " + row[1] + ")";
            Check.due(what, x.addTransaction(row[0], row[1]), row[2]);
            Check.due(what + ", completedCount(0) after it", x.completedCount(0), row[2] == 0 ? 0 : -11);
        }
    }

    private static void eightAtMost() {
        HolisticRta x = new HolisticRta(1, 4);
        for (int id = 0; id < 8; id++) {
            Check.due("refused between", x.addTransaction(0, 0), -14);
            Check.due("addTransaction no. " + id, x.addTransaction(10 + id, 10), id);
        }
        Check.due("the ninth", x.addTransaction(10, 10), -10);
        Check.due("the ninth, with a wrong period", x.addTransaction(0, 10), -10);
        Check.due("the ninth, with a wrong deadline", x.addTransaction(10, 0), -10);
        Check.due("completedCount(7)", x.completedCount(7), 0);
        Check.due("completedCount(8)", x.completedCount(8), -11);
    }

    private static void refusedChangesNothing() {
        HolisticRta x = Check.busy();
        HolisticRta twin = Check.busy();
        x.addTransaction(0, 1);
        x.addTransaction(201, 1);
        x.addTransaction(10, 0);
        x.addTransaction(10, 11);
        Check.same("after refused calls", Check.view(x), Check.view(twin));
        x.run(777);
        twin.run(777);
        Check.same("and on from there", Check.view(x), Check.view(twin));

        HolisticRta full = new HolisticRta(1, 8);
        for (int id = 0; id < 8; id++) {
            full.addTransaction(100, 100);
            full.addStep(id, 0, 2, id + 1);
        }
        full.analyse();
        full.run(9);
        String before = Check.view(full);
        Check.due("full", full.addTransaction(100, 100), -10);
        Check.same("after ERR_FULL", Check.view(full), before);
    }

    private static void isConfigurationChange() {
        HolisticRta x = Check.busy();
        Check.due("the new id", x.addTransaction(20, 20), 2);
        Check.due("analysisState()", x.analysisState(), 0);
        Check.due("stepBound(0)", x.stepBound(0), -2);
        Check.due("transactionBound(0)", x.transactionBound(0), -2);
        Check.due("transactionBound(2)", x.transactionBound(2), -2);
        Check.reset("after addTransaction", x, 3, 5);
        Check.due("analyse() with an empty transaction", x.analyse(), -16);
        Check.due("run(1) with an empty transaction", x.run(1), -16);
    }

    private static void othersAreKept() {
        HolisticRta x = Check.busy();
        x.addTransaction(200, 200);
        x.addStep(2, 1, 1, 99);
        x.setArrivals(2, 200, 0);
        x.run(200);
        HolisticRta twin = Check.busy();
        twin.setArrivals(1, 1, 0);
        twin.run(200);
        for (int tx = 0; tx < 2; tx++) {
            Check.due("observedMax(" + tx + ")", x.observedMax(tx), twin.observedMax(tx));
            Check.due("completedCount(" + tx + ")", x.completedCount(tx), twin.completedCount(tx));
            Check.due("overrunCount(" + tx + ")", x.overrunCount(tx), twin.overrunCount(tx));
        }
        for (int s = 0; s < 5; s++) {
            Check.due("stepObservedMax(" + s + ")", x.stepObservedMax(s), twin.stepObservedMax(s));
            Check.due("stepRemaining(" + s + ")", x.stepRemaining(s), twin.stepRemaining(s));
        }
    }

    private static void newOneHasNoStepsNorOffset() {
        HolisticRta x = new HolisticRta(1, 4);
        x.addTransaction(10, 10);
        Check.due("run without a step", x.run(1), -16);
        x.addStep(0, 0, 1, 1);
        x.run(1);
        Check.due("it arrives at 0", x.completedCount(0), 1);
        x.run(9);
        Check.due("not again before 10", x.completedCount(0), 1);
        x.run(1);
        Check.due("again at 10, without a gap", x.completedCount(0), 2);
    }

    private static void periodAndDeadlineTakeEffect() {
        HolisticRta x = new HolisticRta(1, 4);
        x.addTransaction(9, 5);
        x.addStep(0, 0, 5, 1);
        Check.due("cost 5 within deadline 5", x.analyse(), 1);
        HolisticRta y = new HolisticRta(1, 4);
        y.addTransaction(9, 4);
        y.addStep(0, 0, 5, 1);
        Check.due("cost 5 beyond deadline 4", y.analyse(), 2);
    }
}
