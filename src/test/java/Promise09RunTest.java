/** Promise 9: run, and the ticks it is made of. */
public final class Promise09RunTest {
    private static final int BUS = HolisticRta.BUS;

    public static void main(String[] args) {
        incomplete();
        ticksAreClamped();
        horizonFromAfar();
        horizonInTheMiddleOfARun();
        nothingAtTheHorizon();
        inPartsOrAtOnce();
        configurationAndAnalysisStay();
        processorsPreempt();
        busDoesNotPreempt();
        nextFrameIsTheMostUrgent();
        busGoesAfterTheProcessors();
        overrunsAndArrivals();
        fullConfiguration();
        Check.end("Promise09RunTest");
    }

    private static HolisticRta two(int resource, int urgentOffset) {
        HolisticRta x = new HolisticRta(1, 8);
        x.addTransaction(20, 20);
        x.addTransaction(20, 20);
        x.addStep(0, resource, 5, 1);
        x.addStep(1, resource, 2, 9);
        x.setArrivals(1, urgentOffset, 0);
        return x;
    }

    private static void ticks(String what, HolisticRta x, int resource, int... runners) {
        for (int t = 0; t < runners.length; t++) {
            Check.due(what + ", run(1)", x.run(1), 1);
            Check.due(what + ", tick " + t + " runs", x.runningOn(resource), runners[t]);
        }
    }

    private static void incomplete() {
        HolisticRta x = new HolisticRta(1, 4);
        for (int ticks : new int[] {0, 1, -1, 2000}) {
            Check.due("fresh run(" + ticks + ")", x.run(ticks), -16);
        }
        x.addTransaction(10, 10);
        Check.due("no step, run(1)", x.run(1), -16);
        Check.due("no step, run(0)", x.run(0), -16);
        x.addTransaction(10, 10);
        x.addStep(0, 0, 1, 1);
        Check.due("none in the last", x.run(5), -16);
        Check.due("now()", x.now(), 0);
        Check.reset("after refused runs", x, 2, 1);
        x.addStep(1, 0, 1, 2);
        Check.due("complete", x.run(5), 5);
    }

    private static void ticksAreClamped() {
        int[][] rows = {
            {Integer.MIN_VALUE, 0}, {-1000, 0}, {-1, 0}, {0, 0}, {1, 1}, {2, 2}, {999, 999}, {1000, 1000},
            {1001, 1000}, {100000, 1000}, {Integer.MAX_VALUE, 1000},
        };
        for (int[] row : rows) {
            HolisticRta x = Check.busy();
            String before = Check.view(x);
            Check.due("run(" + row[0] + ")", x.run(row[0]), row[1]);
            Check.due("now() after run(" + row[0] + ")", x.now(), Check.BUSY_TIME + row[1]);
            if (row[1] == 0) {
                Check.same("after run(" + row[0] + ")", Check.view(x), before);
            }
        }
    }

    private static void horizonFromAfar() {
        HolisticRta x = two(0, 2);
        for (int i = 1; i <= 100; i++) {
            Check.due("run(1000) no. " + i, x.run(1000), 1000);
            Check.due("now() after no. " + i, x.now(), i * 1000);
        }
        Check.due("at the horizon", x.run(1000), 0);
        Check.due("now() there", x.now(), 100000);
        // 5000 periods of 20, all done in time.
        Check.due("completedCount(0)", x.completedCount(0), 5000);
        Check.due("completedCount(1)", x.completedCount(1), 5000);
        Check.due("overrunCount(0)", x.overrunCount(0), 0);
    }

    private static void horizonInTheMiddleOfARun() {
        HolisticRta x = two(0, 2);
        Check.due("run(301)", x.run(301), 301);
        for (int i = 0; i < 99; i++) {
            x.run(1000);
        }
        Check.due("now() before the end", x.now(), 99301);
        Check.due("the last part", x.run(1000), 699);
        Check.due("now() at the end", x.now(), 100000);
    }

    private static void nothingAtTheHorizon() {
        HolisticRta x = two(BUS, 2);
        x.setArrivals(0, 16, 0);
        x.setArrivals(1, 18, 0);
        for (int i = 0; i < 100; i++) {
            x.run(1000);
        }
        String before = Check.view(x);
        Check.due("a frame is under way", x.stepRemaining(0), 1);
        Check.due("run(1) there", x.run(1), 0);
        Check.due("run(1000) there", x.run(1000), 0);
        Check.due("run(-1) there", x.run(-1), 0);
        Check.same("after runs at the horizon", Check.view(x), before);
        x.setArrivals(0, 0, 0);
        Check.due("after a reset it runs again", x.run(7), 7);
        Check.due("now() then", x.now(), 7);
    }

    private static void inPartsOrAtOnce() {
        HolisticRta x = Check.busy();
        HolisticRta twin = Check.busy();
        for (int part = 0; part <= 30; part++) {
            x.run(part);
        }
        twin.run(465);
        Check.same("465 ticks in parts", Check.view(x), Check.view(twin));
    }

    private static void configurationAndAnalysisStay() {
        HolisticRta x = Check.busy();
        String analysis = Check.analysisView(x);
        x.run(1000);
        Check.same("the analysis", Check.analysisView(x), analysis);
        x.analyse();
        Check.same("the analysis made again", Check.analysisView(x), analysis);
        HolisticRta twin = Check.busy();
        x.setArrivals(0, 3, 2);
        x.run(Check.BUSY_TIME);
        Check.same("the arrivals", Check.view(x), Check.view(twin));
    }

    private static void processorsPreempt() {
        HolisticRta x = two(0, 2);
        ticks("processor", x, 0, 0, 0, 1, 1, 0, 0, 0, -1);
        Check.due("observedMax(0)", x.observedMax(0), 7);
        Check.due("observedMax(1)", x.observedMax(1), 2);
        // Both at once: the more urgent one goes first although its id is the greater.
        ticks("processor, both", two(0, 0), 0, 1, 1, 0, 0, 0, 0, 0, -1);
    }

    private static void busDoesNotPreempt() {
        HolisticRta x = two(BUS, 2);
        ticks("bus", x, BUS, 0, 0, 0, 0, 0, 1, 1, -1);
        Check.due("observedMax(0)", x.observedMax(0), 5);
        Check.due("observedMax(1)", x.observedMax(1), 5);
        ticks("bus, both", two(BUS, 0), BUS, 1, 1, 0, 0, 0, 0, 0, -1);
    }

    private static void nextFrameIsTheMostUrgent() {
        HolisticRta x = new HolisticRta(1, 8);
        int[] priorities = {5, 3, 9, 7};
        for (int tx = 0; tx < 4; tx++) {
            x.addTransaction(30, 30);
            x.addStep(tx, BUS, 2, priorities[tx]);
        }
        x.setArrivals(0, 1, 0);
        x.setArrivals(2, 1, 0);
        x.setArrivals(3, 4, 0);
        // Step 3 arrives just as frame 2 is done, and goes before step 0, which has waited longer.
        ticks("frames", x, BUS, 1, 1, 2, 2, 3, 3, 0, 0, -1);
    }

    /** A step that becomes pending by a completion works no earlier than in the next tick. */
    private static void busGoesAfterTheProcessors() {
        HolisticRta x = new HolisticRta(2, 8);
        x.addTransaction(30, 30);
        x.addStep(0, 0, 1, 1);
        x.addStep(0, BUS, 1, 1);
        x.addStep(0, 1, 1, 1);
        x.addStep(0, 0, 1, 2);
        int[][] rows = {{0, -1, -1}, {-1, -1, 1}, {-1, 2, -1}, {3, -1, -1}, {-1, -1, -1}};
        for (int t = 0; t < rows.length; t++) {
            x.run(1);
            Check.due("tick " + t + " processor 0", x.runningOn(0), rows[t][0]);
            Check.due("tick " + t + " processor 1", x.runningOn(1), rows[t][1]);
            Check.due("tick " + t + " bus", x.runningOn(BUS), rows[t][2]);
        }
        Check.due("observedMax(0)", x.observedMax(0), 4);
    }

    private static void overrunsAndArrivals() {
        HolisticRta x = new HolisticRta(1, 4);
        x.addTransaction(3, 3);
        x.addStep(0, 0, 5, 1);
        // Arrivals at 0, 3 (dropped), 6, 9 (dropped), ..: 5 ticks of work in every 6.
        ticks("overrun", x, 0, 0, 0, 0, 0, 0, -1, 0, 0, 0, 0, 0, -1);
        Check.due("completedCount(0)", x.completedCount(0), 2);
        Check.due("overrunCount(0)", x.overrunCount(0), 2);
        Check.due("a dropped arrival does not count as its start", x.observedMax(0), 5);
        HolisticRta full = new HolisticRta(1, 4);
        full.addTransaction(5, 5);
        full.addStep(0, 0, 5, 1);
        full.run(1000);
        Check.due("back to back, completed", full.completedCount(0), 200);
        Check.due("back to back, overruns", full.overrunCount(0), 0);
    }

    private static void fullConfiguration() {
        HolisticRta x = new HolisticRta(4, 16);
        for (int tx = 0; tx < 8; tx++) {
            x.addTransaction(100, 100);
        }
        for (int s = 0; s < 16; s++) {
            x.addStep(s % 8, s < 8 ? s % 4 : BUS, 2, s + 1);
        }
        Check.due("run(1000)", x.run(1000), 1000);
        for (int tx = 0; tx < 8; tx++) {
            Check.due("completedCount(" + tx + ")", x.completedCount(tx), 10);
        }
        // Heads 4 to 7 end at 2, heads 0 to 3 at 4; the frames go from step 15 down to step 8.
        Check.due("the first frame", x.observedMax(7), 4);
        Check.due("the last frame", x.observedMax(0), 18);
    }
}
