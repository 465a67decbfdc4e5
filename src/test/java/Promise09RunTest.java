/** Promise 9: run. What one tick does is tested in TermsTickTest. */
public final class Promise09RunTest {
    private static final int BUS = HolisticRta.BUS;
    private static final int MIN = Values.MIN;
    private static final int MAX = Values.MAX;
    private static final Situation[] COMPLETE = {
        Situation.NOT_ANALYSED, Situation.ADMITTED, Situation.REFUSED, Situation.OVERLOADED, Situation.STEPS_FULL,
        Situation.TRANSACTIONS_FULL, Situation.ALL_FULL, Situation.CALM_FULL, Situation.AT_THE_HORIZON,
        Situation.CALM_AT_THE_HORIZON,
    };

    public static void main(String[] args) {
        incomplete();
        incompleteWhateverTheTicks();
        incompleteChangesNothing();
        ticksBelow();
        ticksWithin();
        ticksAbove();
        oneAfterAnother();
        stopsAtTheHorizon();
        everyDistanceToTheHorizon();
        neverBeyondTheHorizon();
        lastTickBeforeTheHorizon();
        nothingAtTheHorizon();
        incompleteIsExaminedBeforeTheHorizon();
        zeroChangesNothing();
        configurationStays();
        analysisStays();
        offsetAndGapStay();
        fullConfiguration();
        Check.end("Promise09RunTest");
    }

    private static HolisticRta one() {
        HolisticRta x = new HolisticRta(1, 4);
        x.addTransaction(20, 20);
        x.addStep(0, 0, 7, 1);
        return x;
    }

    /** A run that stands at this time, which is at most HORIZON. */
    private static HolisticRta at(int time) {
        HolisticRta x = one();
        while (x.now() < time && x.run(Math.min(1000, time - x.now())) > 0) {
            Check.due("on the way", x.now() <= time);
        }
        Check.due("the time is " + time, x.now(), time);
        return x;
    }

    private static void incomplete() {
        Check.says("If the configuration is not COMPLETE, it answers ERR_INCOMPLETE ..");
        HolisticRta x = new HolisticRta(1, 16);
        Check.due("no transaction", x.run(1), -16);
        for (int count = 1; count <= 8; count++) {
            x.addTransaction(100, 100);
            Check.due(count + " transactions, the last without a step", x.run(1), -16);
            x.addStep(count - 1, 0, 1, count);
            Check.due(count + " transactions with a step", x.run(1), 1);
        }
        HolisticRta y = new HolisticRta(1, 16);
        y.addTransaction(100, 100);
        y.addTransaction(100, 100);
        y.addStep(1, 0, 1, 1);
        Check.due("none in the first", y.run(1), -16);
        y.addStep(0, 0, 1, 2);
        Check.due("one in each", y.run(1), 1);
    }

    private static void incompleteWhateverTheTicks() {
        Check.says("If the configuration is not COMPLETE, it answers ERR_INCOMPLETE .. (before ticks is looked at)");
        for (Situation where : new Situation[] {Situation.FRESH, Situation.EMPTY, Situation.INCOMPLETE}) {
            HolisticRta x = where.make();
            for (int ticks : Values.ALL) {
                Check.due(where.name + ", run(" + ticks + ")", x.run(ticks), -16);
                Check.due(where.name + ", now()", x.now(), 0);
            }
        }
    }

    private static void incompleteChangesNothing() {
        Check.says(".. and changes nothing.");
        for (Situation where : new Situation[] {Situation.FRESH, Situation.EMPTY, Situation.INCOMPLETE}) {
            where.unchangedBy(-16, "run(1)");
            where.unchangedBy(-16, "run(0)", "run(-1)", "run(1000)", "run(1001)", "run(" + MIN + ")", "run(" + MAX + ")");
        }
    }

    private static void clamped(int ticks, int due) {
        for (Situation where : COMPLETE) {
            HolisticRta x = where.make();
            int now = x.now();
            int done = now == HolisticRta.HORIZON ? 0 : due;
            Check.due(where.name + ", run(" + ticks + ")", x.run(ticks), done);
            Check.due(where.name + ", now() after run(" + ticks + ")", x.now(), now + done);
        }
    }

    private static void ticksBelow() {
        Check.says("Otherwise ticks is clamped into 0..MAX_TICKS: below 0 becomes 0 ..");
        for (int ticks : new int[] {-1, -2, -999, -1000, -1001, -65536, -65535, MIN + 1, MIN}) {
            clamped(ticks, 0);
        }
    }

    private static void ticksWithin() {
        Check.says("The call answers the number of TICKs done, which is in 0..MAX_TICKS.");
        for (int ticks : new int[] {0, 1, 2, 3, 100, 255, 256, 257, 998, 999, 1000}) {
            clamped(ticks, ticks);
        }
        HolisticRta x = one();
        int time = 0;
        for (int ticks = 0; ticks <= 300; ticks++) {
            Check.due("run(" + ticks + ")", x.run(ticks), ticks);
            time += ticks;
            Check.due("now() after run(" + ticks + ")", x.now(), time);
        }
    }

    private static void ticksAbove() {
        Check.says(".. above MAX_TICKS becomes MAX_TICKS.");
        for (int ticks : new int[] {1001, 1002, 2000, 65536, 65537, 99999, 100000, 100001, MAX - 1, MAX}) {
            clamped(ticks, 1000);
        }
        HolisticRta x = one();
        x.run(MAX);
        HolisticRta twin = one();
        twin.run(1000);
        Check.same("run(MAX) is run(1000)", Check.view(x), Check.view(twin));
    }

    private static void oneAfterAnother() {
        Check.says("TICKs are then done one after another, as defined above");
        for (Situation where : COMPLETE) {
            HolisticRta x = where.make();
            HolisticRta twin = where.make();
            HolisticRta third = where.make();
            for (int part = 0; part <= 30; part++) {
                x.run(part);
            }
            twin.run(465);
            for (int tick = 0; tick < 465; tick++) {
                third.run(1);
            }
            Check.same(where.name + ", 465 ticks in parts", Check.view(x), Check.view(twin));
            Check.same(where.name + ", 465 ticks one by one", Check.view(third), Check.view(twin));
        }
    }

    private static void stopsAtTheHorizon() {
        Check.says(".. while fewer than the clamped ticks have been done in this call and now < HORIZON.");
        int[][] rows = {
            {100000 - 1001, 1000, 1000}, {100000 - 1000, 1000, 1000}, {100000 - 999, 1000, 999}, {100000 - 999, 999, 999},
            {100000 - 999, 998, 998}, {99999, 1, 1}, {99999, 2, 1}, {99999, 1000, 1}, {99999, MAX, 1}, {99998, 1, 1},
            {99998, 2, 2}, {99998, 3, 2}, {99500, MAX, 500}, {100000, 1, 0}, {100000, 1000, 0},
        };
        for (int[] row : rows) {
            HolisticRta x = at(row[0]);
            Check.due("at " + row[0] + ", run(" + row[1] + ")", x.run(row[1]), row[2]);
            Check.due("at " + row[0] + ", now() then", x.now(), row[0] + row[2]);
        }
    }

    private static void everyDistanceToTheHorizon() {
        Check.says("The call answers the number of TICKs done (the last call before the horizon)");
        HolisticRta x = at(100000 - 50 * 51 / 2);
        for (int ticks = 50; ticks >= 1; ticks--) {
            Check.due("run(" + ticks + ")", x.run(ticks), ticks);
        }
        Check.due("now()", x.now(), 100000);
        Check.due("run(1)", x.run(1), 0);
    }

    private static void neverBeyondTheHorizon() {
        Check.says("now never goes beyond HORIZON.");
        for (int ticks : new int[] {7, 333, 777, 999, 1000, MAX}) {
            HolisticRta x = one();
            int calls = 0;
            int done = 0;
            for (int got = 1; got > 0 && calls < 20000; calls++) {
                got = x.run(ticks);
                done += got;
                Check.due("run(" + ticks + "), now()", x.now(), done);
                Check.due("run(" + ticks + "), now() <= HORIZON", x.now() <= HolisticRta.HORIZON);
            }
            Check.due("run(" + ticks + "), at last", x.now(), HolisticRta.HORIZON);
        }
    }

    /** Arrivals at 0, 20, .., 99980, each with 7 ticks of work; those at 99993, say, must be seen to the end. */
    private static void lastTickBeforeTheHorizon() {
        Check.says("while .. now < HORIZON (the tick at HORIZON - 1 is done, and the one at HORIZON is not)");
        for (int offset = 0; offset < 20; offset++) {
            HolisticRta x = one();
            x.setArrivals(0, offset, 0);
            for (int i = 0; i < 101; i++) {
                x.run(1000);
            }
            // The last arrival is at 99980 + offset, and 20 - offset ticks are left for it.
            int done = Math.min(7, 20 - offset);
            Check.due("offset " + offset + ", completedCount(0)", x.completedCount(0), done == 7 ? 5000 : 4999);
            Check.due("offset " + offset + ", stepRemaining(0)", x.stepRemaining(0), 7 - done);
            Check.due("offset " + offset + ", runningOn(0)", x.runningOn(0), 20 - offset <= 7 ? 0 : -1);
            Check.due("offset " + offset + ", overrunCount(0)", x.overrunCount(0), 0);
        }
    }

    private static void nothingAtTheHorizon() {
        Check.says("Once now equals HORIZON, run answers 0 and changes nothing.");
        HolisticRta x = Situation.AT_THE_HORIZON.make();
        Check.due("a frame is under way", x.stepRemaining(0), 1);
        Check.due("the bus is at work", x.runningOn(BUS), 0);
        for (int ticks : Values.ALL) {
            Check.due("run(" + ticks + ")", x.run(ticks), 0);
        }
        for (Situation where : new Situation[] {Situation.AT_THE_HORIZON, Situation.CALM_AT_THE_HORIZON}) {
            where.unchangedBy(0, "run(1)");
            where.unchangedBy(0, "run(1000)", "run(" + MAX + ")", "run(0)", "run(-1)", "run(" + MIN + ")");
        }
    }

    private static void incompleteIsExaminedBeforeTheHorizon() {
        Check.says("If the configuration is not COMPLETE, it answers ERR_INCOMPLETE (also after the horizon was met)");
        HolisticRta x = Situation.AT_THE_HORIZON.make();
        int id = x.addTransaction(50, 50);
        Check.due("run(1)", x.run(1), -16);
        Check.due("now()", x.now(), 0);
        x.addStep(id, 0, 1, 1);
        Check.due("run(1) when complete", x.run(1), 1);
        Check.due("now() then", x.now(), 1);
    }

    private static void zeroChangesNothing() {
        Check.says("A clamped count of 0 changes nothing.");
        for (Situation where : COMPLETE) {
            where.unchangedBy(0, "run(0)");
            where.unchangedBy(0, "run(-1)");
            where.unchangedBy(0, "run(" + MIN + ")", "run(0)");
        }
        HolisticRta x = one();
        Check.due("before the first tick", x.run(0), 0);
        Check.due("no arrival has come", x.stepRemaining(0), 0);
        Check.reset("before the first tick", x, 1, 1);
    }

    private static void configurationStays() {
        Check.says("The configuration, O, G, the analysis state and the bounds do not change. (the configuration)");
        HolisticRta x = Situation.REFUSED.make();
        String analysis = Check.analysisView(x);
        x.run(1000);
        x.analyse();
        Check.same("the analysis made again", Check.analysisView(x), analysis);
        Check.due("the next transaction", x.addTransaction(10, 10), 2);
        Check.due("the next step", x.addStep(2, 1, 1, 1), 5);
        Check.due("a priority that is taken", x.addStep(2, 0, 1, 30), -15);
    }

    private static void analysisStays() {
        Check.says("The configuration, O, G, the analysis state and the bounds do not change. (the analysis)");
        for (Situation where : COMPLETE) {
            HolisticRta x = where.make();
            String analysis = Check.analysisView(x);
            for (int ticks : new int[] {0, 1, 10, 1000, -1, MAX}) {
                x.run(ticks);
                Check.same(where.name + ", run(" + ticks + ")", Check.analysisView(x), analysis);
            }
        }
    }

    private static void offsetAndGapStay() {
        Check.says("The configuration, O, G, the analysis state and the bounds do not change. (O and G)");
        HolisticRta x = Check.busy();
        x.run(1000);
        x.run(333);
        x.setArrivals(0, 3, 2);
        x.run(Check.BUSY_TIME);
        Check.same("transaction 1 as before", Check.view(x), Check.view(Check.busy()));
        x.run(1000);
        x.setArrivals(1, 1, 0);
        x.run(Check.BUSY_TIME);
        Check.same("transaction 0 as before", Check.view(x), Check.view(Check.busy()));
    }

    private static void fullConfiguration() {
        Check.says("TICKs are then done one after another, as defined above (8 transactions, 16 steps)");
        HolisticRta x = new HolisticRta(4, 16);
        for (int tx = 0; tx < 8; tx++) {
            x.addTransaction(100, 100);
        }
        for (int s = 0; s < 16; s++) {
            x.addStep(s % 8, s < 8 ? s % 4 : BUS, 2, s + 1);
        }
        Check.due("run(1000)", x.run(1000), 1000);
        // Heads 4 to 7 end at 2, heads 0 to 3 at 4; the frames go from step 15 down to step 8.
        for (int tx = 0; tx < 8; tx++) {
            Check.due("completedCount(" + tx + ")", x.completedCount(tx), 10);
            Check.due("stepObservedMax(" + tx + ")", x.stepObservedMax(tx), tx < 4 ? 4 : 2);
            Check.due("observedMax(" + tx + ")", x.observedMax(tx), 4 + 2 * (7 - tx));
        }
    }
}
