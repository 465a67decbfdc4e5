/** Promise 5: analyse, with bounds reckoned by hand from the document's formulas. */
public final class Promise05AnalyseTest {
    private static final int BUS = HolisticRta.BUS;

    public static void main(String[] args) {
        incomplete();
        processorInterference();
        busBlockingAndInterference();
        jitterOfTheMoreUrgent();
        deadlineIsTheLastFiniteBound();
        noFixpoint();
        unboundedGoesWhereJitterGoes();
        unboundedGoesNowhereElse();
        arrivalPatternDoesNotCount();
        simulationIsUntouched();
        againGivesTheSame();
        largestConfiguration();
        Check.end("Promise05AnalyseTest");
    }

    /** A transaction for every row of {period, deadline}. */
    private static HolisticRta with(int[][] rows) {
        HolisticRta x = new HolisticRta(4, 16);
        for (int[] row : rows) {
            x.addTransaction(row[0], row[1]);
        }
        return x;
    }

    private static void bounds(String what, HolisticRta x, int state, int... bounds) {
        Check.due(what + ", analyse()", x.analyse(), state);
        Check.due(what + ", analysisState()", x.analysisState(), state);
        for (int s = 0; s < bounds.length; s++) {
            Check.due(what + ", stepBound(" + s + ")", x.stepBound(s), bounds[s]);
        }
    }

    private static void incomplete() {
        HolisticRta x = new HolisticRta(1, 4);
        Check.due("no transaction", x.analyse(), -16);
        x.addTransaction(10, 10);
        Check.due("no step", x.analyse(), -16);
        x.addTransaction(10, 10);
        x.addStep(1, 0, 1, 1);
        Check.due("none in the first", x.analyse(), -16);
        Check.due("analysisState()", x.analysisState(), 0);
        x.addStep(0, 0, 1, 2);
        Check.due("complete", x.analyse(), 1);
        x.addTransaction(10, 10);
        Check.due("none in the last", x.analyse(), -16);
        Check.due("analysisState() then", x.analysisState(), 0);
        Check.due("stepBound(0) then", x.stepBound(0), -2);
    }

    private static HolisticRta pair(int resource, int firstPeriod) {
        HolisticRta x = with(new int[][] {{firstPeriod, firstPeriod}, {20, 20}});
        x.addStep(0, resource, 3, 2);
        x.addStep(1, resource, 4, 1);
        return x;
    }

    private static void processorInterference() {
        bounds("period 10: 4 + 3", pair(0, 10), 1, 3, 7);
        // f(7) = 4 + ceil(7/7) * 3: a release at the window's end does not count.
        bounds("period 7: 4 + 3", pair(0, 7), 1, 3, 7);
        bounds("period 6: 4 + 2 * 3", pair(0, 6), 1, 3, 10);
        bounds("period 4: 4 + 4 * 3", pair(0, 4), 1, 3, 16);
        // Equal priorities on different processors have nothing to do with each other.
        HolisticRta x = with(new int[][] {{10, 10}, {10, 10}, {10, 10}});
        x.addStep(0, 0, 4, 5);
        x.addStep(1, 1, 5, 9);
        x.addStep(2, 3, 6, 1);
        bounds("apart", x, 1, 4, 5, 6);
    }

    private static void busBlockingAndInterference() {
        // Step 0: B = 4 from the less urgent one, W = 4, 4 + 3. Step 1: f(7) = 4 + ceil(8/8) * 3.
        bounds("period 8: W = 7", pair(BUS, 8), 1, 7, 11);
        // f(7) = 4 + ceil(8/7) * 3 = 10: on the bus a release at the window's end does count.
        bounds("period 7: W = 10", pair(BUS, 7), 1, 7, 14);
        bounds("period 12", pair(BUS, 12), 1, 7, 11);
        HolisticRta alone = with(new int[][] {{10, 10}});
        alone.addStep(0, BUS, 3, 1);
        bounds("alone: its own cost blocks", alone, 1, 6);
        HolisticRta three = with(new int[][] {{50, 50}, {50, 50}, {50, 50}});
        three.addStep(0, BUS, 2, 30);
        three.addStep(1, BUS, 9, 20);
        three.addStep(2, BUS, 5, 10);
        // B: 9, 9 (its own, above 5), 5. W: 9; 9 + 2; 5 + 2 + 9.
        bounds("three frames", three, 1, 11, 20, 21);
        HolisticRta turned = with(new int[][] {{50, 50}, {50, 50}});
        turned.addStep(0, BUS, 9, 10);
        turned.addStep(1, BUS, 2, 20);
        bounds("the first step blocks", turned, 1, 20, 11);
        HolisticRta elsewhere = with(new int[][] {{50, 50}, {50, 50}});
        elsewhere.addStep(0, BUS, 2, 30);
        elsewhere.addStep(1, 0, 20, 10);
        bounds("a processor does not block the bus", elsewhere, 1, 4, 20);
    }

    private static void jitterOfTheMoreUrgent() {
        // Step 2: f(5) = 2 + ceil((5 + J)/10) * 3 is 5 while the jitter J of step 1 is 5, and 8 beyond.
        HolisticRta x = with(new int[][] {{10, 10}, {30, 30}});
        x.addStep(0, 1, 5, 1);
        x.addStep(0, 0, 3, 2);
        x.addStep(1, 0, 2, 1);
        bounds("jitter 5: (5 + 5)/10", x, 1, 5, 8, 5);
        HolisticRta y = with(new int[][] {{10, 10}, {30, 30}});
        y.addStep(0, 1, 6, 1);
        y.addStep(0, 0, 3, 2);
        y.addStep(1, 0, 2, 1);
        bounds("jitter 6: (5 + 6)/10", y, 1, 6, 9, 8);
        // The same with the ids turned round: the bound of step 0 waits for those of later steps.
        HolisticRta turned = with(new int[][] {{30, 30}, {10, 10}});
        turned.addStep(0, 0, 2, 1);
        turned.addStep(1, 1, 6, 1);
        turned.addStep(1, 0, 3, 2);
        bounds("jitter 6 of a later step", turned, 1, 8, 6, 9);
        HolisticRta bus = with(new int[][] {{10, 10}, {30, 30}});
        bus.addStep(0, 1, 3, 1);
        bus.addStep(0, BUS, 2, 2);
        bus.addStep(1, BUS, 3, 1);
        // Step 1: 3 + 3 + 2. Step 2: f(5) = 3 + ceil((5 + 3 + 1)/10) * 2.
        bounds("jitter 3 on the bus", bus, 1, 3, 8, 8);
        HolisticRta late = with(new int[][] {{10, 10}, {30, 30}});
        late.addStep(0, 1, 5, 1);
        late.addStep(0, BUS, 2, 2);
        late.addStep(1, BUS, 3, 1);
        // Step 2: f(5) = 3 + ceil((5 + 5 + 1)/10) * 2 = 7 = f(7).
        bounds("jitter 5 on the bus", late, 1, 5, 10, 10);
        // Two transactions, each with a tail that delays the other one's head.
        HolisticRta loop = with(new int[][] {{40, 40}, {40, 40}});
        loop.addStep(0, 0, 3, 1);
        loop.addStep(0, 1, 4, 2);
        loop.addStep(1, 1, 5, 1);
        loop.addStep(1, 0, 6, 2);
        bounds("a loop", loop, 1, 9, 13, 9, 15);
        HolisticRta own = with(new int[][] {{12, 12}});
        own.addStep(0, 0, 2, 1);
        own.addStep(0, 0, 3, 2);
        bounds("a chain that meets itself", own, 1, 5, 8);
    }

    private static void deadlineIsTheLastFiniteBound() {
        int[][] rows = {{20, 7, 7}, {20, 6, -1}, {20, 8, 7}, {7, 7, 7}};
        for (int[] row : rows) {
            HolisticRta x = with(new int[][] {{10, 10}, {row[0], row[1]}});
            x.addStep(0, 0, 3, 2);
            x.addStep(1, 0, 4, 1);
            bounds("deadline " + row[1], x, row[2] == -1 ? 2 : 1, 3, row[2]);
        }
        for (int deadline = 10; deadline <= 12; deadline++) {
            HolisticRta x = with(new int[][] {{12, 12}, {20, deadline}});
            x.addStep(0, BUS, 3, 2);
            x.addStep(1, BUS, 4, 1);
            bounds("bus, deadline " + deadline, x, deadline < 11 ? 2 : 1, 7, deadline < 11 ? -1 : 11);
        }
        HolisticRta chain = with(new int[][] {{20, 9}});
        chain.addStep(0, 0, 4, 1);
        chain.addStep(0, 1, 5, 1);
        bounds("a chain within 9", chain, 1, 4, 9);
        HolisticRta longer = with(new int[][] {{20, 8}});
        longer.addStep(0, 0, 4, 1);
        longer.addStep(0, 1, 5, 1);
        bounds("a chain beyond 8", longer, 2, 4, -1);
        HolisticRta head = with(new int[][] {{3, 3}});
        head.addStep(0, 0, 4, 1);
        bounds("cost above the deadline", head, 2, -1);
        HolisticRta tiny = with(new int[][] {{1, 1}});
        tiny.addStep(0, 0, 1, 1);
        bounds("one tick", tiny, 1, 1);
        HolisticRta tinyBus = with(new int[][] {{1, 1}});
        tinyBus.addStep(0, BUS, 1, 1);
        bounds("one tick on the bus", tinyBus, 2, -1);
    }

    private static void noFixpoint() {
        HolisticRta x = with(new int[][] {{4, 4}, {200, 200}});
        x.addStep(0, 0, 4, 2);
        x.addStep(1, 0, 1, 1);
        bounds("a full processor", x, 2, 4, -1);
        HolisticRta y = with(new int[][] {{1, 1}, {1, 1}, {200, 200}});
        y.addStep(0, 0, 20, 3);
        y.addStep(1, 0, 20, 2);
        y.addStep(2, 0, 20, 1);
        bounds("far too much work", y, 2, -1, -1, -1);
    }

    /** Step 1 is beyond its deadline, so its successor is, and all that is less urgent than the successor. */
    private static void unboundedGoesWhereJitterGoes() {
        HolisticRta x = with(new int[][] {{20, 5}, {50, 50}, {50, 50}});
        x.addStep(0, 0, 3, 1);
        x.addStep(0, 1, 3, 5);
        x.addStep(0, 2, 1, 5);
        x.addStep(1, 2, 1, 4);
        x.addStep(1, 3, 1, 5);
        x.addStep(2, 2, 1, 6);
        bounds("jitter without a bound", x, 2, 3, -1, -1, -1, -1, 1);
        HolisticRta bus = with(new int[][] {{20, 5}, {50, 50}, {50, 50}});
        bus.addStep(0, 0, 6, 1);
        bus.addStep(0, BUS, 7, 5);
        bus.addStep(1, BUS, 1, 4);
        bus.addStep(2, BUS, 1, 6);
        // The most urgent frame is only blocked by it: 7 + 1.
        bounds("the same on the bus", bus, 2, -1, -1, -1, 8);
    }

    /** A head has no jitter, so its own missing bound does no harm to the less urgent. */
    private static void unboundedGoesNowhereElse() {
        HolisticRta x = with(new int[][] {{20, 2}, {50, 50}});
        x.addStep(0, 0, 3, 9);
        x.addStep(1, 0, 4, 1);
        bounds("a late head", x, 2, -1, 7);
        HolisticRta y = with(new int[][] {{20, 2}, {50, 50}});
        y.addStep(0, 0, 3, 1);
        y.addStep(0, 1, 3, 1);
        y.addStep(1, 1, 4, 9);
        y.addStep(1, 0, 4, 9);
        bounds("a less urgent one", y, 2, -1, -1, 4, 8);
    }

    private static void arrivalPatternDoesNotCount() {
        HolisticRta x = pair(0, 6);
        x.setArrivals(0, 50, 200);
        bounds("offset and gap", x, 1, 3, 10);
    }

    private static void simulationIsUntouched() {
        HolisticRta x = Check.busy();
        HolisticRta twin = Check.busy();
        String before = Check.simulationView(x);
        x.analyse();
        Check.same("the simulation", Check.simulationView(x), before);
        x.run(321);
        twin.run(321);
        Check.same("and on from there", Check.view(x), Check.view(twin));

        HolisticRta first = new HolisticRta(1, 4);
        first.addTransaction(10, 10);
        first.addStep(0, 0, 4, 1);
        first.run(2);
        before = Check.simulationView(first);
        Check.due("analysed late", first.analyse(), 1);
        Check.same("the simulation then", Check.simulationView(first), before);
    }

    private static void againGivesTheSame() {
        HolisticRta x = Check.busy();
        String before = Check.analysisView(x);
        for (int i = 0; i < 5; i++) {
            Check.due("again", x.analyse(), x.analysisState());
            Check.same("the analysis again", Check.analysisView(x), before);
        }
        HolisticRta y = with(new int[][] {{20, 9}});
        y.addStep(0, 0, 4, 1);
        bounds("before a second step", y, 1, 4);
        y.addStep(0, 1, 6, 1);
        bounds("refused with it", y, 2, 4, -1);
        y.addTransaction(30, 30);
        y.addStep(1, 0, 1, 9);
        bounds("and with one more", y, 2, 5, -1, 1);
    }

    /** All 16 steps on the bus, with the longest jitters: it ends, and well below any wrap-around. */
    private static void largestConfiguration() {
        HolisticRta x = new HolisticRta(4, 16);
        for (int tx = 0; tx < 8; tx++) {
            x.addTransaction(200, 200);
        }
        for (int s = 0; s < 16; s++) {
            x.addStep(s % 8, BUS, s < 8 ? 20 : 1, 100 - s);
        }
        Check.due("16 frames", x.analyse(), 2);
        Check.due("the first: 20 + 20", x.stepBound(0), 40);
        // 20 + 7 * 20 + 20 = 180 for the last head; every second frame comes too late.
        Check.due("the last head", x.stepBound(7), 180);
        Check.due("the last frame", x.stepBound(15), -1);
        HolisticRta light = new HolisticRta(4, 16);
        light.addTransaction(200, 200);
        for (int s = 0; s < 16; s++) {
            light.addStep(0, s % 4, 1, 100 - s);
        }
        Check.due("16 light steps", light.analyse(), 1);
        // One tick for each, and one more for every more urgent step on its processor: 4 * (1 + 2 + 3 + 4).
        Check.due("the end of their chain", light.transactionBound(0), 40);
    }
}
