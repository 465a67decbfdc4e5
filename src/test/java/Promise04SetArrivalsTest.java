/** Promise 4: setArrivals. */
public final class Promise04SetArrivalsTest {
    private static final int MIN = Values.MIN;
    private static final int MAX = Values.MAX;

    public static void main(String[] args) {
        firstArrivalAtTheOffset();
        nextArrivalsAfterPeriodAndGap();
        everyOffsetAndGap();
        transactionMustExist();
        offsetRange();
        gapRange();
        transactionIsExaminedFirst();
        refusedChangesNothing();
        refusedHalfwayChangesNothing();
        answersOk();
        latestCallCounts();
        analysisIsKept();
        needsNoCompleteConfiguration();
        othersKeepTheirPattern();
        resetsEveryTransactionAndStep();
        resetsWithTheSameValues();
        Check.end("Promise04SetArrivalsTest");
    }

    private static HolisticRta one(int period) {
        HolisticRta x = new HolisticRta(1, 4);
        x.addTransaction(period, 1);
        x.addStep(0, 0, 1, 1);
        return x;
    }

    private static void firstArrivalAtTheOffset() {
        Check.says("The first arrival is at offset ..");
        for (int offset = 0; offset <= 200; offset++) {
            HolisticRta x = one(200);
            x.setArrivals(0, offset, 0);
            x.run(offset);
            Check.due("offset " + offset + ", nothing before", x.completedCount(0), 0);
            x.run(1);
            Check.due("offset " + offset + ", the first", x.completedCount(0), 1);
            Check.due("offset " + offset + ", its response", x.observedMax(0), 1);
        }
        // The offset may be greater than the period: nothing comes before it all the same.
        HolisticRta late = one(1);
        late.setArrivals(0, 200, 0);
        late.run(200);
        Check.due("period 1, offset 200, nothing before", late.completedCount(0), 0);
        late.run(3);
        Check.due("period 1, offset 200, from then on", late.completedCount(0), 3);
    }

    private static void nextArrivalsAfterPeriodAndGap() {
        Check.says(".. and each next arrival comes period + extraGap after the previous one.");
        int[][] rows = {{1, 0}, {1, 1}, {1, 200}, {200, 0}, {200, 1}, {200, 200}, {7, 2}, {50, 199}};
        for (int[] row : rows) {
            HolisticRta x = one(row[0]);
            x.setArrivals(0, 3, row[1]);
            for (int t = 0; t < 1250; t++) {
                x.run(1);
                boolean arrival = t >= 3 && (t - 3) % (row[0] + row[1]) == 0;
                Check.due("period " + row[0] + ", gap " + row[1] + ", tick " + t, x.runningOn(0), arrival ? 0 : -1);
            }
        }
    }

    private static void everyOffsetAndGap() {
        Check.says("offset is outside 0..MAX_PERIOD .. extraGap is outside 0..MAX_PERIOD (all of them)");
        HolisticRta x = one(10);
        for (int offset = -2; offset <= 203; offset++) {
            for (int gap = -2; gap <= 203; gap++) {
                boolean fine = offset >= 0 && offset <= 200 && gap >= 0 && gap <= 200;
                Check.due("setArrivals(0, " + offset + ", " + gap + ")", x.setArrivals(0, offset, gap), fine ? 0 : -14);
            }
        }
    }

    private static void transactionMustExist() {
        Check.says("1. tx is not an existing id: ERR_NO_TX.");
        for (int count = 0; count <= 8; count++) {
            HolisticRta x = new HolisticRta(1, 4);
            for (int tx = 0; tx < count; tx++) {
                x.addTransaction(10, 10);
            }
            for (int tx : new int[] {MIN, MIN + 1, -65536, -256, -2, -1, count, count + 1, 8, 9, 256, 65536, MAX - 1, MAX}) {
                Check.due(count + " exist, setArrivals(" + tx + ", 0, 0)", x.setArrivals(tx, 0, 0), -11);
            }
            for (int tx = 0; tx < count; tx++) {
                Check.due(count + " exist, setArrivals(" + tx + ", 0, 0)", x.setArrivals(tx, 0, 0), 0);
            }
        }
    }

    private static void offsetRange() {
        Check.says("2. offset is outside 0..MAX_PERIOD: ERR_RANGE.");
        for (int offset : new int[] {MIN, MIN + 1, -65536, -256, -200, -1, 201, 202, 256, 257, 400, 65536, MAX - 1, MAX}) {
            Check.due("offset " + offset, one(10).setArrivals(0, offset, 0), -14);
        }
        for (int offset : new int[] {0, 1, 199, 200}) {
            Check.due("offset " + offset, one(10).setArrivals(0, offset, 0), 0);
        }
    }

    private static void gapRange() {
        Check.says("3. extraGap is outside 0..MAX_PERIOD: ERR_RANGE.");
        for (int gap : new int[] {MIN, MIN + 1, -65536, -256, -200, -1, 201, 202, 256, 257, 400, 65536, MAX - 1, MAX}) {
            Check.due("gap " + gap, one(10).setArrivals(0, 0, gap), -14);
        }
        for (int gap : new int[] {0, 1, 199, 200}) {
            Check.due("gap " + gap, one(10).setArrivals(0, 0, gap), 0);
        }
        Check.due("both at their greatest", one(10).setArrivals(0, 200, 200), 0);
        Check.due("both one beyond", one(10).setArrivals(0, 201, 201), -14);
    }

    private static void transactionIsExaminedFirst() {
        Check.says("Conditions are examined in this order: 1. .. ERR_NO_TX 2. .. ERR_RANGE 3. .. ERR_RANGE");
        HolisticRta x = one(10);
        for (int tx : new int[] {MIN, -1, 1, 8, MAX}) {
            for (int wrong : new int[] {MIN, -1, 201, MAX}) {
                Check.due("1 before 2", x.setArrivals(tx, wrong, 0), -11);
                Check.due("1 before 3", x.setArrivals(tx, 0, wrong), -11);
                Check.due("1 before 2 and 3", x.setArrivals(tx, wrong, wrong), -11);
            }
        }
    }

    private static void refusedChangesNothing() {
        Check.says("A refused call changes nothing at all.");
        for (Situation where : Situation.ALL) {
            where.unchangedBy(-11, "setArrivals(-1, 0, 0)");
            where.unchangedBy(-11, "setArrivals(8, 0, 0)", "setArrivals(" + MAX + ", 0, 0)");
            if (where != Situation.FRESH) {
                where.unchangedBy(-14, "setArrivals(0, -1, 0)");
                where.unchangedBy(-14, "setArrivals(0, 201, 0)");
                where.unchangedBy(-14, "setArrivals(0, 0, -1)");
                where.unchangedBy(-14, "setArrivals(0, 0, 201)");
            }
        }
    }

    /** An offset that is written down before the gap is looked at is only seen after the next reset. */
    private static void refusedHalfwayChangesNothing() {
        Check.says("A refused call changes nothing at all. (a good offset beside a wrong gap, and the other way round)");
        for (String call : new String[] {"setArrivals(0, 9, 201)", "setArrivals(0, 9, -1)", "setArrivals(0, 201, 9)"}) {
            HolisticRta x = new HolisticRta(2, 8);
            x.addTransaction(10, 10);
            x.addTransaction(10, 10);
            x.addStep(0, 0, 1, 1);
            x.addStep(1, 1, 1, 1);
            x.setArrivals(0, 4, 3);
            Check.due(call, new Real(x).call(call), -14);
            x.setArrivals(1, 0, 0);
            for (int t = 0; t < 40; t++) {
                x.run(1);
                Check.due(call + ", tick " + t, x.runningOn(0), t >= 4 && (t - 4) % 13 == 0 ? 0 : -1);
            }
        }
    }

    private static void answersOk() {
        Check.says("Otherwise .. the call answers OK.");
        for (Situation where : Situation.ALL) {
            HolisticRta x = where.make();
            for (int tx = 0; tx < 8 && x.completedCount(tx) != -11; tx++) {
                Check.due(where.name + ", setArrivals(" + tx + ", 0, 0)", x.setArrivals(tx, 0, 0), HolisticRta.OK);
                Check.due(where.name + ", setArrivals(" + tx + ", 200, 200)", x.setArrivals(tx, 200, 200), HolisticRta.OK);
            }
        }
    }

    private static void latestCallCounts() {
        Check.says("Otherwise O(tx) = offset and G(tx) = extraGap");
        HolisticRta x = one(7);
        x.setArrivals(0, 200, 200);
        x.setArrivals(0, 3, 2);
        for (int t = 0; t < 60; t++) {
            x.run(1);
            Check.due("offset 3, gap 2, tick " + t, x.runningOn(0), t >= 3 && (t - 3) % 9 == 0 ? 0 : -1);
        }
        x.setArrivals(0, 0, 0);
        for (int t = 0; t < 30; t++) {
            x.run(1);
            Check.due("back to 0 and 0, tick " + t, x.runningOn(0), t % 7 == 0 ? 0 : -1);
        }
    }

    private static void analysisIsKept() {
        Check.says("The analysis is kept: the analysis state and the bounds are unchanged.");
        for (Situation where : Situation.ALL) {
            HolisticRta x = where.make();
            String analysis = Check.analysisView(x);
            x.setArrivals(0, 200, 200);
            x.setArrivals(0, 0, 0);
            x.setArrivals(1, 5, 5);
            Check.same(where.name, Check.analysisView(x), analysis);
        }
        // Nor does a new analysis see the pattern.
        HolisticRta admitted = Situation.ADMITTED.make();
        String analysis = Check.analysisView(admitted);
        admitted.setArrivals(0, 17, 100);
        admitted.setArrivals(1, 0, 200);
        admitted.analyse();
        Check.same("analysed again", Check.analysisView(admitted), analysis);
    }

    private static void needsNoCompleteConfiguration() {
        Check.says("This call is not a configuration change and does not require COMPLETE.");
        HolisticRta x = new HolisticRta(1, 4);
        x.addTransaction(10, 10);
        x.addTransaction(10, 10);
        Check.due("setArrivals without steps", x.setArrivals(1, 2, 5), 0);
        Check.due("still not analysed", x.analysisState(), 0);
        x.addStep(0, 0, 1, 1);
        Check.due("setArrivals with a step missing", x.setArrivals(0, 1, 0), 0);
        x.addStep(1, 0, 1, 2);
        int[] due = {-1, 0, 1, -1};
        for (int t = 0; t < 4; t++) {
            x.run(1);
            Check.due("what was set then counts, tick " + t, x.runningOn(0), due[t]);
        }
    }

    private static void othersKeepTheirPattern() {
        Check.says("Other transactions keep their O and G.");
        HolisticRta x = new HolisticRta(4, 8);
        for (int tx = 0; tx < 4; tx++) {
            x.addTransaction(10, 10);
            x.addStep(tx, tx, 1, 1);
        }
        for (int tx = 0; tx < 4; tx++) {
            x.setArrivals(tx, 3 + tx, tx);
        }
        x.run(17);
        x.setArrivals(2, 0, 9);
        for (int t = 0; t < 60; t++) {
            x.run(1);
            for (int tx = 0; tx < 4; tx++) {
                int offset = tx == 2 ? 0 : 3 + tx;
                int every = tx == 2 ? 19 : 10 + tx;
                boolean arrival = t >= offset && (t - offset) % every == 0;
                Check.due("transaction " + tx + ", tick " + t, x.runningOn(tx), arrival ? tx : -1);
            }
        }
    }

    private static void resetsEveryTransactionAndStep() {
        Check.says("The reset still applies to every transaction and step.");
        for (int tx = 0; tx < 2; tx++) {
            HolisticRta x = Check.busy();
            Check.due("setArrivals(" + tx + ", 5, 5)", x.setArrivals(tx, 5, 5), 0);
            Check.reset("after setArrivals(" + tx + ", 5, 5)", x, 2, 5);
        }
        for (int tx = 0; tx < 8; tx++) {
            HolisticRta x = Situation.ALL_FULL.make();
            x.setArrivals(tx, 5, 5);
            Check.reset("full, after setArrivals(" + tx + ", 5, 5)", x, 8, 16);
        }
        HolisticRta late = Situation.AT_THE_HORIZON.make();
        late.setArrivals(0, 0, 0);
        Check.reset("at the horizon", late, 3, 4);
        Check.due("it runs again", late.run(1000), 1000);
    }

    private static void resetsWithTheSameValues() {
        Check.says("Otherwise .. then a SIMULATION RESET is done (even if offset and gap are what they were)");
        HolisticRta x = Check.busy();
        x.setArrivals(0, 3, 2);
        Check.reset("the same offset and gap", x, 2, 5);
        x.run(Check.BUSY_TIME);
        Check.same("and the same run again", Check.view(x), Check.view(Check.busy()));
    }
}
