/** Promise 3: addStep. */
public final class Promise03AddStepTest {
    public static void main(String[] args) {
        ranges();
        orderOfConditions();
        priorityIsUniqueOnItsResource();
        refusedChangesNothing();
        isConfigurationChange();
        chainsKeepTheOrderOfTheirSteps();
        arrivalsAreKept();
        Check.end("Promise03AddStepTest");
    }

    private static void ranges() {
        int min = Integer.MIN_VALUE;
        int max = Integer.MAX_VALUE;
        int[][] rows = {
            {0, 0, 1, 1, 0}, {1, 1, 20, 100, 0}, {0, 8, 10, 50, 0},
            {-1, 0, 1, 1, -11}, {2, 0, 1, 1, -11}, {8, 0, 1, 1, -11}, {min, 0, 1, 1, -11}, {max, 0, 1, 1, -11},
            {0, -1, 1, 1, -13}, {0, 2, 1, 1, -13}, {0, 3, 1, 1, -13}, {0, 4, 1, 1, -13}, {0, 7, 1, 1, -13},
            {0, 9, 1, 1, -13}, {0, min, 1, 1, -13}, {0, max, 1, 1, -13},
            {0, 0, 0, 1, -14}, {0, 0, -1, 1, -14}, {0, 0, 21, 1, -14}, {0, 0, min, 1, -14}, {0, 0, max, 1, -14},
            {0, 0, 1, 0, -14}, {0, 0, 1, -1, -14}, {0, 0, 1, 101, -14}, {0, 0, 1, min, -14}, {0, 0, 1, max, -14},
        };
        for (int[] row : rows) {
            HolisticRta x = new HolisticRta(2, 16);
            x.addTransaction(50, 50);
            x.addTransaction(50, 50);
            String what = "addStep(" + row[0] + ", " + row[1] + ", " + row[2] + ", " + row[3] + ")";
            Check.due(what, x.addStep(row[0], row[1], row[2], row[3]), row[4]);
            Check.due(what + ", stepRemaining(0) after it", x.stepRemaining(0), row[4] == 0 ? 0 : -12);
        }
    }

    private static void orderOfConditions() {
        HolisticRta x = new HolisticRta(1, 4);
        x.addTransaction(50, 50);
        x.addStep(0, 0, 1, 7);
        Check.due("all wrong: transaction", x.addStep(1, 5, 0, 0), -11);
        Check.due("resource before cost and priority", x.addStep(0, 5, 0, 0), -13);
        Check.due("resource before a priority taken elsewhere", x.addStep(0, 5, 1, 7), -13);
        Check.due("cost before a duplicate", x.addStep(0, 0, 0, 7), -14);
        Check.due("duplicate", x.addStep(0, 0, 1, 7), -15);
        x.addStep(0, 0, 1, 1);
        x.addStep(0, 0, 1, 2);
        x.addStep(0, 0, 1, 3);
        Check.due("full, transaction first", x.addStep(1, 5, 0, 0), -11);
        Check.due("full before resource", x.addStep(0, 5, 1, 9), -10);
        Check.due("full before cost", x.addStep(0, 0, 0, 9), -10);
        Check.due("full before priority", x.addStep(0, 0, 1, 0), -10);
        Check.due("full before duplicate", x.addStep(0, 0, 1, 7), -10);
    }

    private static void priorityIsUniqueOnItsResource() {
        HolisticRta x = new HolisticRta(2, 16);
        x.addTransaction(50, 50);
        x.addTransaction(50, 50);
        Check.due("on processor 0", x.addStep(0, 0, 1, 5), 0);
        Check.due("same priority, processor 1", x.addStep(0, 1, 1, 5), 1);
        Check.due("same priority, bus", x.addStep(0, 8, 1, 5), 2);
        Check.due("again on processor 0", x.addStep(0, 0, 1, 5), -15);
        Check.due("again on processor 0, other transaction", x.addStep(1, 0, 1, 5), -15);
        Check.due("again on processor 1, other transaction", x.addStep(1, 1, 1, 5), -15);
        Check.due("again on the bus, other transaction", x.addStep(1, 8, 1, 5), -15);
        Check.due("other priority", x.addStep(1, 8, 1, 6), 3);
        Check.due("the refused ones took no priority", x.addStep(1, 0, 1, 6), 4);
    }

    private static void refusedChangesNothing() {
        HolisticRta x = Check.busy();
        HolisticRta twin = Check.busy();
        x.addStep(2, 0, 1, 1);
        x.addStep(0, 2, 1, 1);
        x.addStep(0, 0, 21, 1);
        x.addStep(0, 0, 1, 101);
        x.addStep(0, 0, 1, 30);
        Check.same("after refused calls", Check.view(x), Check.view(twin));
        x.run(777);
        twin.run(777);
        Check.same("and on from there", Check.view(x), Check.view(twin));

        HolisticRta full = new HolisticRta(1, 4);
        full.addTransaction(50, 50);
        for (int s = 0; s < 4; s++) {
            full.addStep(0, 0, 3, s + 1);
        }
        full.analyse();
        full.run(5);
        String before = Check.view(full);
        Check.due("full", full.addStep(0, 0, 3, 9), -10);
        Check.same("after ERR_FULL", Check.view(full), before);
    }

    private static void isConfigurationChange() {
        HolisticRta x = Check.busy();
        Check.due("the new id", x.addStep(1, 1, 1, 1), 5);
        Check.due("analysisState()", x.analysisState(), 0);
        Check.due("stepBound(0)", x.stepBound(0), -2);
        Check.due("stepBound(5)", x.stepBound(5), -2);
        Check.due("transactionBound(1)", x.transactionBound(1), -2);
        Check.reset("after addStep", x, 2, 6);
    }

    /** Two chains grown in turns: steps 0, 2, 3 and steps 1, 4. */
    private static void chainsKeepTheOrderOfTheirSteps() {
        HolisticRta x = new HolisticRta(2, 16);
        x.addTransaction(100, 100);
        x.addTransaction(100, 100);
        x.addStep(0, 0, 1, 10);
        x.addStep(1, 0, 2, 20);
        x.addStep(0, 1, 3, 10);
        x.addStep(0, 0, 4, 30);
        x.addStep(1, 1, 5, 20);
        // Processor 0: step 1 in [0,2), 0 in [2,3), 3 later. Processor 1: step 4 in [2,7), 2 in [7,10).
        int[] on0 = {1, 1, 0, -1, -1, -1, -1, -1, -1, -1, 3, 3, 3, 3, -1};
        int[] on1 = {-1, -1, 4, 4, 4, 4, 4, 2, 2, 2, -1, -1, -1, -1, -1};
        for (int t = 0; t < on0.length; t++) {
            x.run(1);
            Check.due("tick " + t + " processor 0", x.runningOn(0), on0[t]);
            Check.due("tick " + t + " processor 1", x.runningOn(1), on1[t]);
        }
        Check.due("observedMax(0)", x.observedMax(0), 14);
        Check.due("observedMax(1)", x.observedMax(1), 7);
        x.analyse();
        // 7 = 1 + 2 + 4, the last step of its own chain being more urgent with jitter below 100.
        Check.due("stepBound(0)", x.stepBound(0), 7);
        Check.due("stepBound(2)", x.stepBound(2), 15);
        Check.due("stepBound(3)", x.stepBound(3), 19);
        Check.due("transactionBound(0) is its tail's", x.transactionBound(0), 19);
    }

    private static void arrivalsAreKept() {
        HolisticRta x = new HolisticRta(1, 4);
        x.addTransaction(10, 10);
        x.addStep(0, 0, 1, 1);
        x.setArrivals(0, 4, 3);
        x.addStep(0, 0, 1, 2);
        x.run(4);
        Check.due("nothing before 4", x.runningOn(0), -1);
        x.run(1);
        Check.due("the head at 4", x.runningOn(0), 0);
        x.run(12);
        Check.due("one completed before 17", x.completedCount(0), 1);
        Check.due("nothing at 16", x.runningOn(0), -1);
        x.run(1);
        Check.due("the head again at 17", x.runningOn(0), 0);
    }
}
