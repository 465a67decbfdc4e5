/** Promise 4: setArrivals. */
public final class Promise04SetArrivalsTest {
    public static void main(String[] args) {
        rangesAndOrder();
        refusedChangesNothing();
        arrivalsComeWhenSet();
        widestPattern();
        resetsAllButTheAnalysis();
        othersKeepTheirPattern();
        needsNoCompleteConfiguration();
        Check.end("Promise04SetArrivalsTest");
    }

    private static void rangesAndOrder() {
        int min = Integer.MIN_VALUE;
        int max = Integer.MAX_VALUE;
        int[][] rows = {
            {0, 0, 0, 0}, {1, 200, 200, 0}, {0, 200, 0, 0}, {0, 0, 200, 0}, {0, 10, 10, 0},
            {-1, 0, 0, -11}, {2, 0, 0, -11}, {8, 0, 0, -11}, {min, 0, 0, -11}, {max, 0, 0, -11}, {2, -1, -1, -11},
            {0, -1, 0, -14}, {0, 201, 0, -14}, {0, min, 0, -14}, {0, max, 0, -14},
            {0, 0, -1, -14}, {0, 0, 201, -14}, {0, 0, min, -14}, {0, 0, max, -14},
        };
        for (int[] row : rows) {
            HolisticRta x = new HolisticRta(1, 4);
            x.addTransaction(5, 5);
            x.addTransaction(5, 5);
            String what = "setArrivals(" + row[0] + ", " + row[1] + ", " + row[2] + ")";
            Check.due(what, x.setArrivals(row[0], row[1], row[2]), row[3]);
        }
    }

    private static void refusedChangesNothing() {
        HolisticRta x = Check.busy();
        HolisticRta twin = Check.busy();
        x.setArrivals(2, 0, 0);
        x.setArrivals(0, 201, 5);
        x.setArrivals(0, 9, 201);
        x.setArrivals(1, 9, -1);
        Check.same("after refused calls", Check.view(x), Check.view(twin));
        x.run(500);
        twin.run(500);
        Check.same("and on from there", Check.view(x), Check.view(twin));
        // An offset of a refused call would only be seen after the next reset.
        x.setArrivals(1, 1, 0);
        twin.setArrivals(1, 1, 0);
        x.run(60);
        twin.run(60);
        Check.same("and after a reset", Check.view(x), Check.view(twin));
    }

    private static void arrivalsComeWhenSet() {
        HolisticRta x = new HolisticRta(1, 4);
        x.addTransaction(7, 7);
        x.addStep(0, 0, 1, 1);
        x.setArrivals(0, 3, 2);
        for (int t = 0; t < 60; t++) {
            x.run(1);
            boolean arrival = t == 3 || t == 12 || t == 21 || t == 30 || t == 39 || t == 48 || t == 57;
            Check.due("offset 3, gap 2, tick " + t, x.runningOn(0), arrival ? 0 : -1);
        }
        x.setArrivals(0, 0, 0);
        for (int t = 0; t < 30; t++) {
            x.run(1);
            Check.due("offset 0, gap 0, tick " + t, x.runningOn(0), t % 7 == 0 ? 0 : -1);
        }
    }

    private static void widestPattern() {
        HolisticRta x = new HolisticRta(1, 4);
        x.addTransaction(200, 200);
        x.addStep(0, 0, 1, 1);
        x.setArrivals(0, 200, 200);
        x.run(200);
        Check.due("nothing before 200", x.completedCount(0), 0);
        x.run(1);
        Check.due("the first at 200", x.completedCount(0), 1);
        x.run(399);
        Check.due("nothing before 600", x.completedCount(0), 1);
        x.run(1);
        Check.due("the second at 600", x.completedCount(0), 2);
    }

    private static void resetsAllButTheAnalysis() {
        HolisticRta x = Check.busy();
        String analysis = Check.analysisView(x);
        Check.due("busy() is analysed", x.analysisState() != 0);
        Check.due("setArrivals(1, 5, 5)", x.setArrivals(1, 5, 5), 0);
        Check.same("the analysis", Check.analysisView(x), analysis);
        Check.reset("after setArrivals", x, 2, 5);
        // A frame that outlived the reset would be seen on the bus at once.
        x.run(3);
        Check.due("the bus is idle", x.runningOn(8), -1);

        HolisticRta admitted = new HolisticRta(1, 4);
        admitted.addTransaction(10, 10);
        admitted.addStep(0, 0, 3, 1);
        admitted.analyse();
        admitted.setArrivals(0, 2, 0);
        Check.due("ADMITTED is kept", admitted.analysisState(), 1);
        Check.due("its bound is kept", admitted.stepBound(0), 3);
    }

    private static void othersKeepTheirPattern() {
        HolisticRta x = new HolisticRta(2, 4);
        x.addTransaction(10, 10);
        x.addTransaction(10, 10);
        x.addStep(0, 0, 1, 1);
        x.addStep(1, 1, 1, 1);
        x.setArrivals(0, 4, 1);
        x.setArrivals(1, 6, 3);
        for (int t = 0; t < 40; t++) {
            x.run(1);
            Check.due("transaction 0, tick " + t, x.runningOn(0), t >= 4 && (t - 4) % 11 == 0 ? 0 : -1);
            Check.due("transaction 1, tick " + t, x.runningOn(1), t >= 6 && (t - 6) % 13 == 0 ? 1 : -1);
        }
    }

    private static void needsNoCompleteConfiguration() {
        HolisticRta x = new HolisticRta(1, 4);
        x.addTransaction(10, 10);
        x.addTransaction(10, 10);
        Check.due("setArrivals without steps", x.setArrivals(1, 2, 0), 0);
        Check.due("still not analysed", x.analysisState(), 0);
        x.addStep(0, 0, 1, 1);
        x.addStep(1, 0, 1, 2);
        x.run(1);
        Check.due("0 arrives at 0", x.runningOn(0), 0);
        x.run(1);
        Check.due("none at 1", x.runningOn(0), -1);
        x.run(1);
        Check.due("1 arrives at 2", x.runningOn(0), 1);
    }
}
