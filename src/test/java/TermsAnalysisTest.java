/** 'Terms used below', Analysis: bounds reckoned by hand from the document's formulas, but for those after many rounds. */
public final class TermsAnalysisTest {
    private static final int BUS = HolisticRta.BUS;

    public static void main(String[] args) {
        headHasNoJitter();
        jitterIsTheBoundBefore();
        moreUrgentStepsOfTheSameResource();
        lessUrgentStepsOfTheBus();
        ceilingAtTheEnds();
        ceilingWithJitterAtTheEnds();
        longestPeriodAndJitter();
        ownJitterInfinite();
        jitterOfAMoreUrgentInfinite();
        infinityGoesNowhereElse();
        leastWindow();
        noWindow();
        sumOverAllMoreUrgent();
        processorWindow();
        processorBound();
        blocking();
        busWindow();
        ownFrameComesOnTop();
        ownJitterIsOutsideTheWindow();
        deadlineIsTheLastFiniteBound();
        greatestBound();
        leastFiniteBound();
        deadlineOfItsOwnTransaction();
        leastVector();
        leastVectorWhateverTheIds();
        leastVectorAfterManyRounds();
        oneInfiniteBoundRefuses();
        boundOfTheTail();
        Check.end("TermsAnalysisTest");
    }

    private static int[] tx(int period, int deadline) {
        return Bounds.tx(period, deadline);
    }

    private static void headHasNoJitter() {
        Check.says("J(s) = 0 if s is a head ..");
        // The first head is late, and the step whose id is one lower than the second head's is too.
        HolisticRta x = Bounds.with(tx(20, 3), tx(50, 50));
        x.addStep(0, 0, 4, 9);
        x.addStep(1, 0, 5, 1);
        Bounds.due("after a late step", x, 2, -1, 9);
        HolisticRta y = Bounds.with(tx(20, 20), tx(50, 50));
        y.addStep(0, 0, 4, 9);
        y.addStep(1, 1, 5, 1);
        Bounds.due("after another transaction's step", y, 1, 4, 5);
    }

    private static void jitterIsTheBoundBefore() {
        Check.says(".. else R(pred(s)).");
        HolisticRta x = Bounds.with(tx(100, 100), tx(100, 100));
        x.addStep(0, 0, 4, 1);
        x.addStep(1, 3, 20, 1);
        x.addStep(0, 1, 5, 1);
        x.addStep(1, 3, 19, 2);
        x.addStep(0, 2, 6, 1);
        // Transaction 0: 4, 4 + 5, 9 + 6, whatever lies between in the other one.
        // Transaction 1: 20 + 19, then 39 + 19.
        Bounds.due("chains of three and two", x, 1, 4, 39, 9, 58, 15);
    }

    private static void moreUrgentStepsOfTheSameResource() {
        Check.says("hp(s) = the other steps on res(s) with priority > P(s).");
        int[][] rows = {{50, 49, 4}, {50, 51, 7}, {1, 2, 7}, {2, 1, 4}, {100, 99, 4}, {99, 100, 7}, {100, 1, 4}, {1, 100, 7}};
        for (int[] row : rows) {
            HolisticRta x = Bounds.with(tx(50, 50), tx(50, 50));
            x.addStep(0, 0, 4, row[0]);
            x.addStep(1, 0, 3, row[1]);
            Bounds.due("priorities " + row[0] + " and " + row[1], x, 1, row[2], row[2] == 4 ? 7 : 3);
        }
        HolisticRta apart = Bounds.with(tx(50, 50), tx(50, 50), tx(50, 50), tx(50, 50), tx(50, 50));
        apart.addStep(0, 0, 4, 5);
        apart.addStep(1, 1, 5, 9);
        apart.addStep(2, 2, 6, 100);
        apart.addStep(3, 3, 7, 1);
        apart.addStep(4, BUS, 8, 50);
        Bounds.due("other resources do not count", apart, 1, 4, 5, 6, 7, 16);
        HolisticRta own = Bounds.with(tx(50, 50));
        own.addStep(0, 0, 4, 1);
        own.addStep(0, 0, 3, 2);
        // Step 0: 4 + 3. Step 1: 7 + 3.
        Bounds.due("its own chain counts", own, 1, 7, 10);
    }

    private static void lessUrgentStepsOfTheBus() {
        Check.says("lp(s) = the other steps on res(s) with priority < P(s).");
        int[][] rows = {{50, 49, 9}, {2, 1, 9}, {100, 99, 9}, {100, 1, 9}};
        for (int[] row : rows) {
            HolisticRta x = Bounds.with(tx(50, 50), tx(50, 50));
            x.addStep(0, BUS, 2, row[0]);
            x.addStep(1, BUS, 7, row[1]);
            // Step 0: 7 + 2. Step 1: 7 + 2, then its own 7.
            Bounds.due("priorities " + row[0] + " and " + row[1], x, 1, row[2], 16);
        }
        HolisticRta own = Bounds.with(tx(50, 50));
        own.addStep(0, BUS, 2, 9);
        own.addStep(0, BUS, 7, 8);
        // Step 1: jitter 9, W = 7 + 2, its own 7.
        Bounds.due("its own chain counts", own, 1, 9, 25);
        HolisticRta elsewhere = Bounds.with(tx(50, 50), tx(50, 50));
        elsewhere.addStep(0, BUS, 2, 30);
        elsewhere.addStep(1, 0, 20, 10);
        Bounds.due("a processor's step does not block the bus", elsewhere, 1, 4, 20);
        HolisticRta processor = Bounds.with(tx(50, 50), tx(50, 50));
        processor.addStep(0, 0, 2, 30);
        processor.addStep(1, 0, 20, 10);
        Bounds.due("nothing blocks a processor", processor, 1, 2, 22);
    }

    /** Step 1 has cost 4 below step 0 with cost 3 and the given period. */
    private static HolisticRta pair(int resource, int firstPeriod) {
        HolisticRta x = Bounds.with(tx(firstPeriod, firstPeriod), tx(40, 40));
        x.addStep(0, resource, 3, 2);
        x.addStep(1, resource, 4, 1);
        return x;
    }

    private static void ceilingAtTheEnds() {
        Check.says("ceil(a/b) is the least integer >= a/b");
        // W = 4 + 3: 7/8 and 7/7 make one, 7/6 makes two, and W = 10 then.
        Bounds.due("period 8", pair(0, 8), 1, 3, 7);
        Bounds.due("period 7", pair(0, 7), 1, 3, 7);
        Bounds.due("period 6", pair(0, 6), 1, 3, 10);
        // 10/5 makes two, 10/4 three, 13/4 four, 16/4 four.
        Bounds.due("period 5", pair(0, 5), 1, 3, 10);
        Bounds.due("period 4", pair(0, 4), 1, 3, 16);
        HolisticRta one = Bounds.with(tx(1, 1), tx(1, 1));
        one.addStep(0, 0, 1, 2);
        one.addStep(1, 1, 1, 1);
        Bounds.due("period 1, nothing above", one, 1, 1, 1);
    }

    private static HolisticRta late(int resource, int jitter) {
        HolisticRta x = Bounds.with(tx(10, 10), tx(30, 30));
        x.addStep(0, 1, jitter, 1);
        x.addStep(0, resource, resource == BUS ? 2 : 3, 2);
        x.addStep(1, resource, resource == BUS ? 3 : 2, 1);
        return x;
    }

    private static void ceilingWithJitterAtTheEnds() {
        Check.says("ceil((w + J(j)) / T(j)) * C(j), and ceil((w + J(j) + 1) / T(j)) * C(j) on the bus");
        // Step 2: f(5) = 2 + ceil((5 + J)/10) * 3 is 5 while J is 5, and 8 beyond.
        Bounds.due("jitter 4", late(0, 4), 1, 4, 7, 5);
        Bounds.due("jitter 5: 10/10", late(0, 5), 1, 5, 8, 5);
        Bounds.due("jitter 6: 11/10", late(0, 6), 1, 6, 9, 8);
        // Step 2: f(5) = 3 + ceil((5 + J + 1)/10) * 2 is 5 while J is 4, and 7 beyond; its own 3 on top.
        Bounds.due("bus, jitter 3", late(BUS, 3), 1, 3, 8, 8);
        Bounds.due("bus, jitter 4: 10/10", late(BUS, 4), 1, 4, 9, 8);
        Bounds.due("bus, jitter 5: 11/10", late(BUS, 5), 1, 5, 10, 10);
    }

    private static void longestPeriodAndJitter() {
        Check.says("T(j) means T(tx(j)). (a period of 200 beside a jitter of 180)");
        for (int cost = 15; cost <= 16; cost++) {
            HolisticRta x = Bounds.with(tx(200, 200), tx(200, 200));
            x.addStep(0, 1, 20, 9);
            x.addStep(0, 2, 20, 9);
            x.addStep(0, 3, 20, 9);
            x.addStep(0, BUS, 20, 9);
            x.addStep(0, 1, 20, 1);
            x.addStep(0, 2, 20, 1);
            x.addStep(0, 0, 5, 9);
            x.addStep(1, 0, cost, 1);
            // 15 + 5 + 180 is just 200; with 16 a second release of step 6 falls into the window.
            Bounds.due("cost " + cost, x, 1, 20, 40, 60, 100, 140, 180, 185, cost == 15 ? 20 : 26);
        }
    }

    private static void ownJitterInfinite() {
        Check.says("If J(s) = INF .. then raw(s) = INF.");
        for (int resource : new int[] {2, BUS}) {
            HolisticRta x = Bounds.with(tx(20, 5), tx(50, 50));
            x.addStep(0, 0, 3, 1);
            x.addStep(0, 1, 3, 5);
            x.addStep(0, resource, 1, 5);
            x.addStep(0, 3, 1, 5);
            x.addStep(1, 0, 9, 9);
            // Step 0: 3 + 9 is late, so the whole chain is.
            Bounds.due("from the head, resource " + resource, x, 2, -1, -1, -1, -1, 9);
            HolisticRta y = Bounds.with(tx(20, 5));
            y.addStep(0, 0, 3, 1);
            y.addStep(0, 1, 3, 5);
            y.addStep(0, resource, 1, 5);
            Bounds.due("from the middle, resource " + resource, y, 2, 3, -1, -1);
        }
    }

    private static void jitterOfAMoreUrgentInfinite() {
        Check.says("If .. J(j) = INF for some j in hp(s), then raw(s) = INF.");
        for (int resource : new int[] {0, BUS}) {
            // Three more urgent steps; the tail of transaction `bad` has a late pred.
            for (int bad = 0; bad < 3; bad++) {
                HolisticRta x = Bounds.with(tx(100, bad == 0 ? 1 : 100), tx(100, bad == 1 ? 1 : 100),
                    tx(100, bad == 2 ? 1 : 100), tx(100, 100));
                for (int tx = 0; tx < 3; tx++) {
                    x.addStep(tx, tx + 1, 2, 1);
                }
                for (int tx = 0; tx < 3; tx++) {
                    x.addStep(tx, resource, 1, 50 + tx);
                }
                x.addStep(3, resource, 1, 9);
                x.analyse();
                for (int tx = 0; tx < 3; tx++) {
                    String what = "resource " + resource + ", bad " + bad;
                    Check.due(what + ", the head of " + tx, x.stepBound(tx), tx == bad ? -1 : 2);
                    // A tail more urgent than the bad one is not harmed.
                    Check.due(what + ", the tail of " + tx + " is finite", x.stepBound(3 + tx) != -1 == tx > bad);
                }
                Check.due("resource " + resource + ", bad " + bad + ", below all", x.stepBound(6), -1);
            }
        }
    }

    /** The late step itself, a late head that is more urgent, and late steps that are less urgent do no harm. */
    private static void infinityGoesNowhereElse() {
        Check.says("Otherwise raw(s) is found as follows.");
        HolisticRta head = Bounds.with(tx(20, 2), tx(50, 50));
        head.addStep(0, 0, 3, 9);
        head.addStep(1, 0, 4, 1);
        Bounds.due("a late head", head, 2, -1, 7);
        HolisticRta busHead = Bounds.with(tx(20, 2), tx(50, 50));
        busHead.addStep(0, BUS, 3, 9);
        busHead.addStep(1, BUS, 4, 1);
        Bounds.due("a late head on the bus", busHead, 2, -1, 11);
        HolisticRta below = Bounds.with(tx(20, 2), tx(50, 50));
        below.addStep(0, 0, 3, 1);
        below.addStep(0, 1, 3, 1);
        below.addStep(1, 1, 4, 9);
        below.addStep(1, 0, 4, 9);
        Bounds.due("a less urgent one", below, 2, -1, -1, 4, 8);
        HolisticRta busBelow = Bounds.with(tx(20, 5), tx(50, 50));
        busBelow.addStep(0, 0, 6, 1);
        busBelow.addStep(0, BUS, 7, 5);
        busBelow.addStep(1, BUS, 1, 6);
        // Its jitter is without a bound, and yet it blocks by no more than its cost.
        Bounds.due("a less urgent frame", busBelow, 2, -1, -1, 8);
        HolisticRta elsewhere = Bounds.with(tx(20, 5), tx(50, 50));
        elsewhere.addStep(0, 0, 6, 1);
        elsewhere.addStep(0, 1, 7, 5);
        elsewhere.addStep(1, 2, 1, 1);
        Bounds.due("on another resource", elsewhere, 2, -1, -1, 1);
    }

    private static void leastWindow() {
        Check.says("Let W be the least integer w >= 0 with f(w) = w (processor)");
        HolisticRta x = Bounds.with(tx(2, 2), tx(20, 20));
        x.addStep(0, 0, 1, 2);
        x.addStep(1, 0, 1, 1);
        // f(w) = 1 + ceil(w/2) is w for 2 and for 3.
        Bounds.due("2, not 3", x, 1, 1, 2);
        HolisticRta full = Bounds.with(tx(2, 2), tx(2, 2));
        full.addStep(0, 0, 1, 2);
        full.addStep(1, 0, 1, 1);
        Bounds.due("a processor that is just full", full, 1, 1, 2);
    }

    private static void noWindow() {
        Check.says(".. or INF if there is none.");
        HolisticRta x = Bounds.with(tx(4, 4), tx(200, 200));
        x.addStep(0, 0, 4, 2);
        x.addStep(1, 0, 1, 1);
        Bounds.due("a full processor", x, 2, 4, -1);
        HolisticRta every = Bounds.with(tx(1, 1), tx(200, 200));
        every.addStep(0, 0, 1, 2);
        every.addStep(1, 0, 1, 1);
        Bounds.due("work in every tick", every, 2, 1, -1);
        HolisticRta three = Bounds.with(tx(2, 2), tx(2, 2), tx(200, 200));
        three.addStep(0, 0, 1, 3);
        three.addStep(1, 0, 1, 2);
        three.addStep(2, 0, 1, 1);
        Bounds.due("two that fill it", three, 2, 1, 2, -1);
        HolisticRta far = Bounds.with(tx(1, 1), tx(1, 1), tx(200, 200));
        far.addStep(0, 0, 20, 3);
        far.addStep(1, 0, 20, 2);
        far.addStep(2, 0, 20, 1);
        Bounds.due("far too much work", far, 2, -1, -1, -1);
        HolisticRta bus = Bounds.with(tx(4, 4), tx(200, 200));
        bus.addStep(0, BUS, 4, 2);
        bus.addStep(1, BUS, 1, 1);
        Bounds.due("a full bus", bus, 2, -1, -1);
    }

    private static void sumOverAllMoreUrgent() {
        Check.says("the sum over j in hp(s)");
        HolisticRta x = new HolisticRta(1, 16);
        for (int tx = 0; tx < 8; tx++) {
            x.addTransaction(200, 200);
            x.addStep(tx, 0, tx + 1, 100 - tx);
        }
        Bounds.due("eight steps", x, 1, 1, 3, 6, 10, 15, 21, 28, 36);
        HolisticRta y = new HolisticRta(1, 16);
        for (int tx = 0; tx < 8; tx++) {
            y.addTransaction(200, 200);
            y.addStep(tx, 0, tx + 1, 1 + tx);
        }
        Bounds.due("eight steps, the last the most urgent", y, 1, 36, 35, 33, 30, 26, 21, 15, 8);
    }

    private static void processorWindow() {
        Check.says("Processor step: let f(w) = C(s) + the sum over j in hp(s) of ceil((w + J(j)) / T(j)) * C(j).");
        for (int cost : new int[] {1, 5, 20}) {
            HolisticRta x = Bounds.with(tx(50, 50), tx(50, 50));
            x.addStep(0, 3, cost, 2);
            x.addStep(1, 3, 9, 1);
            Bounds.due("a less urgent step does not block cost " + cost, x, 1, cost, cost + 9);
        }
        // Step 1: f(w) = 4 + ceil(w/T) * 3, which at 7 is 7 down to T = 7, and 10 for T = 6.
        Bounds.due("period 8", pair(0, 8), 1, 3, 7);
        Bounds.due("period 7: 7/7", pair(0, 7), 1, 3, 7);
        Bounds.due("period 6: 7/6", pair(0, 6), 1, 3, 10);
    }

    private static void processorBound() {
        Check.says("Then raw(s) = J(s) + W. (processor)");
        for (int cost : new int[] {1, 2, 19, 20}) {
            HolisticRta x = Bounds.with(tx(200, 200), tx(200, 200));
            x.addStep(0, 0, 7, 1);
            x.addStep(0, 1, cost, 1);
            x.addStep(1, 1, 3, 2);
            Bounds.due("cost " + cost, x, 1, 7, 7 + cost + 3, 3);
        }
    }

    private static void blocking() {
        Check.says("let B be the greatest of C(s) and of C(k) for every k in lp(s)");
        HolisticRta alone = Bounds.with(tx(50, 50));
        alone.addStep(0, BUS, 3, 1);
        Bounds.due("none below: its own cost", alone, 1, 6);
        // The costs of three less urgent frames; the most urgent has cost 5.
        int[][] rows = {{9, 2, 3, 9}, {2, 9, 3, 9}, {2, 3, 9, 9}, {4, 3, 2, 5}, {5, 1, 1, 5}, {6, 5, 4, 6}, {20, 1, 19, 20}};
        for (int[] row : rows) {
            HolisticRta x = Bounds.with(tx(200, 200), tx(200, 200), tx(200, 200), tx(200, 200));
            x.addStep(0, BUS, row[0], 10);
            x.addStep(1, BUS, row[1], 30);
            x.addStep(2, BUS, 5, 90);
            x.addStep(3, BUS, row[2], 20);
            x.analyse();
            String what = "costs " + row[0] + ", " + row[1] + ", " + row[2];
            Check.due(what, x.stepBound(2), row[3] + 5);
        }
        HolisticRta three = Bounds.with(tx(50, 50), tx(50, 50), tx(50, 50));
        three.addStep(0, BUS, 2, 30);
        three.addStep(1, BUS, 9, 20);
        three.addStep(2, BUS, 5, 10);
        // B: 9, 9 (its own, above 5), 5 (though a more urgent one is longer). W: 9; 9 + 2; 5 + 2 + 9.
        Bounds.due("three frames", three, 1, 11, 20, 21);
    }

    private static void busWindow() {
        Check.says("f(w) = B + the sum .. of ceil((w + J(j) + 1) / T(j)) * C(j)");
        // Step 0: B = 4, 4 + 3. Step 1: f(7) = 4 + ceil(8/T) * 3, its own 4 on top.
        Bounds.due("period 9", pair(BUS, 9), 1, 7, 11);
        Bounds.due("period 8: 8/8", pair(BUS, 8), 1, 7, 11);
        Bounds.due("period 7: 8/7", pair(BUS, 7), 1, 7, 14);
        // f(w) = 1 + ceil((w + 1)/2) is w for 3 and for 4.
        HolisticRta x = Bounds.with(tx(2, 2), tx(20, 20));
        x.addStep(0, BUS, 1, 2);
        x.addStep(1, BUS, 1, 1);
        Bounds.due("the least: 3, not 4", x, 1, 2, 4);
    }

    private static void ownFrameComesOnTop() {
        Check.says("Then raw(s) = J(s) + W + C(s).");
        for (int cost : new int[] {1, 2, 19, 20}) {
            HolisticRta x = Bounds.with(tx(200, 200));
            x.addStep(0, 0, 7, 1);
            x.addStep(0, BUS, cost, 1);
            Bounds.due("cost " + cost, x, 1, 7, 7 + 2 * cost);
        }
    }

    private static void ownJitterIsOutsideTheWindow() {
        Check.says("raw(s) = J(s) + W (f knows J of the more urgent steps alone)");
        // f(5) = 2 + 1 * 3 on either resource; with its own jitter of 9 the step would meet two of them.
        HolisticRta task = Bounds.with(tx(10, 10), tx(50, 50));
        task.addStep(0, 1, 3, 9);
        task.addStep(1, 0, 9, 1);
        task.addStep(1, 1, 2, 1);
        Bounds.due("a task", task, 1, 3, 9, 9 + 5);
        HolisticRta message = Bounds.with(tx(10, 10), tx(50, 50));
        message.addStep(0, BUS, 3, 9);
        message.addStep(1, 0, 9, 1);
        message.addStep(1, BUS, 2, 1);
        Bounds.due("a message", message, 1, 3 + 3, 9, 9 + 5 + 2);
    }

    private static void deadlineIsTheLastFiniteBound() {
        Check.says("F(R)(s) = raw(s) if raw(s) is finite and raw(s) <= D(tx(s)); else INF.");
        for (int deadline = 5; deadline <= 9; deadline++) {
            HolisticRta x = Bounds.with(tx(10, 10), tx(20, deadline));
            x.addStep(0, 0, 3, 2);
            x.addStep(1, 0, 4, 1);
            Bounds.due("processor, deadline " + deadline, x, deadline < 7 ? 2 : 1, 3, deadline < 7 ? -1 : 7);
        }
        for (int deadline = 9; deadline <= 13; deadline++) {
            HolisticRta x = Bounds.with(tx(12, 12), tx(20, deadline));
            x.addStep(0, BUS, 3, 2);
            x.addStep(1, BUS, 4, 1);
            Bounds.due("bus, deadline " + deadline, x, deadline < 11 ? 2 : 1, 7, deadline < 11 ? -1 : 11);
        }
        for (int deadline = 7; deadline <= 11; deadline++) {
            HolisticRta x = Bounds.with(tx(20, deadline));
            x.addStep(0, 0, 4, 1);
            x.addStep(0, 1, 5, 1);
            Bounds.due("a chain, deadline " + deadline, x, deadline < 9 ? 2 : 1, 4, deadline < 9 ? -1 : 9);
        }
        for (int deadline = 11; deadline <= 15; deadline++) {
            HolisticRta x = Bounds.with(tx(20, deadline));
            x.addStep(0, 0, 3, 1);
            x.addStep(0, BUS, 5, 1);
            Bounds.due("a chain on the bus, deadline " + deadline, x, deadline < 13 ? 2 : 1, 3, deadline < 13 ? -1 : 13);
        }
        HolisticRta period = Bounds.with(tx(10, 10), tx(7, 7));
        period.addStep(0, 0, 3, 2);
        period.addStep(1, 0, 4, 1);
        Bounds.due("the deadline that is the period", period, 1, 3, 7);
        HolisticRta cost = Bounds.with(tx(20, 19), tx(20, 20));
        cost.addStep(0, 0, 20, 2);
        cost.addStep(1, 1, 20, 2);
        Bounds.due("a cost of one more than the deadline", cost, 2, -1, 20);
    }

    private static void greatestBound() {
        Check.says("Every finite bound of s lies in 1..D(tx(s)). (200 is the greatest)");
        for (int deadline = 199; deadline <= 200; deadline++) {
            HolisticRta x = Bounds.with(tx(20, 20), tx(200, deadline));
            x.addStep(0, 0, 18, 2);
            x.addStep(1, 0, 20, 1);
            // 20 + 18 k with k = ceil(w/20): ten releases, and 200.
            boolean fits = deadline == 200;
            Bounds.due("processor, deadline " + deadline, x, fits ? 1 : 2, 18, fits ? 200 : -1);
            HolisticRta bus = Bounds.with(tx(100, 100), tx(200, 200), tx(200, 200), tx(200, 200), tx(200, 200),
                tx(200, 200), tx(200, 200), tx(200, deadline));
            for (int s = 0; s < 8; s++) {
                bus.addStep(s, BUS, 20, 100 - s);
            }
            // The last: B = 20, six frames, and step 0 twice from a window of 100 on: 180, its own 20 on top.
            Bounds.due("bus, deadline " + deadline, bus, fits ? 1 : 2, 40, 60, 80, 100, 140, 160, 180, fits ? 200 : -1);
        }
        HolisticRta more = Bounds.with(tx(20, 20), tx(200, 200), tx(200, 200));
        more.addStep(0, 0, 18, 3);
        more.addStep(1, 0, 1, 2);
        more.addStep(2, 0, 20, 1);
        Bounds.due("beyond 200", more, 2, 18, 19, -1);
    }

    private static void leastFiniteBound() {
        Check.says("Every finite bound of s lies in 1..D(tx(s)). (1 is the least)");
        HolisticRta one = Bounds.with(tx(1, 1));
        one.addStep(0, 0, 1, 1);
        Bounds.due("one tick", one, 1, 1);
        HolisticRta long1 = Bounds.with(tx(200, 1));
        long1.addStep(0, 0, 1, 1);
        Bounds.due("one tick in a long period", long1, 1, 1);
        HolisticRta two = Bounds.with(tx(2, 1));
        two.addStep(0, 0, 2, 1);
        Bounds.due("two ticks of one", two, 2, -1);
        HolisticRta bus1 = Bounds.with(tx(2, 1));
        bus1.addStep(0, BUS, 1, 1);
        Bounds.due("one tick on the bus, deadline 1", bus1, 2, -1);
        HolisticRta bus2 = Bounds.with(tx(2, 2));
        bus2.addStep(0, BUS, 1, 1);
        Bounds.due("one tick on the bus, deadline 2", bus2, 1, 2);
    }

    private static void deadlineOfItsOwnTransaction() {
        Check.says("raw(s) <= D(tx(s))");
        HolisticRta x = Bounds.with(tx(50, 9), tx(50, 10), tx(50, 4));
        x.addStep(2, 2, 5, 1);
        x.addStep(1, 1, 10, 1);
        x.addStep(0, 0, 10, 1);
        Bounds.due("three deadlines", x, 2, -1, 10, -1);
    }

    private static void leastVector() {
        Check.says("The ANALYSED BOUNDS are the LEAST vector R with F(R) = R.");
        HolisticRta own = Bounds.with(tx(12, 12));
        own.addStep(0, 0, 2, 1);
        own.addStep(0, 0, 3, 2);
        // (8, 11) and (INF, INF) solve the equations as well.
        Bounds.due("a chain that meets itself", own, 1, 5, 8);
        HolisticRta loop = Bounds.with(tx(40, 40), tx(40, 40));
        loop.addStep(0, 0, 3, 1);
        loop.addStep(0, 1, 4, 2);
        loop.addStep(1, 1, 5, 1);
        loop.addStep(1, 0, 6, 2);
        Bounds.due("two tails, each above the other one's head", loop, 1, 9, 13, 9, 15);
        HolisticRta late = Bounds.with(tx(10, 10));
        late.addStep(0, 0, 6, 1);
        late.addStep(0, 0, 5, 2);
        // Step 0: 6 + 5 = 11, then 6 + 2 * 5.
        Bounds.due("no finite solution", late, 2, -1, -1);
    }

    private static void leastVectorWhateverTheIds() {
        Check.says("The ANALYSED BOUNDS are the LEAST vector R with F(R) = R. (a bound that waits for later steps)");
        HolisticRta x = Bounds.with(tx(30, 30), tx(10, 10));
        x.addStep(0, 0, 2, 1);
        x.addStep(1, 1, 6, 1);
        x.addStep(1, 0, 3, 2);
        Bounds.due("jitter 6 of a later step", x, 1, 8, 6, 9);
        // Steps 0 and 1 wait for 3, that for 5, that for 7: each has a jitter that the next one's pred gives.
        HolisticRta y = Bounds.with(tx(100, 100), tx(20, 20), tx(20, 20), tx(20, 20));
        y.addStep(0, 0, 2, 1);
        y.addStep(1, 1, 2, 1);
        y.addStep(1, 0, 3, 2);
        y.addStep(2, 2, 2, 1);
        y.addStep(2, 1, 4, 2);
        y.addStep(3, 3, 9, 1);
        y.addStep(3, 2, 5, 2);
        // 5: 9. 6: 9 + 5. 3: 2 + 5 with 7 + 9 below 20. 4: 7 + 4. 1: 2 + 4 with 6 + 7 below 20. 2: 6 + 3. 0: 2 + 3.
        Bounds.due("a row of jitters", y, 1, 5, 6, 9, 7, 11, 9, 14);
        HolisticRta z = Bounds.with(tx(100, 100), tx(20, 20), tx(20, 20), tx(20, 20));
        z.addStep(0, 0, 8, 1);
        z.addStep(1, 1, 2, 1);
        z.addStep(1, 0, 3, 2);
        z.addStep(2, 2, 2, 1);
        z.addStep(2, 1, 4, 2);
        z.addStep(3, 3, 14, 1);
        z.addStep(3, 2, 5, 2);
        // 3: 7 + 14 is above 20: 2 + 2 * 5 = 12. 1: 2 + 4, 6 + 12 is not. 0: 8 + 3, 11 + 6 is not.
        Bounds.due("a longer jitter", z, 1, 11, 6, 9, 12, 16, 14, 19);
    }

    /** Two systems in which the bounds push each other up more than ten times; the model has reckoned them. */
    private static void leastVectorAfterManyRounds() {
        Check.says("The ANALYSED BOUNDS are the LEAST vector R with F(R) = R. (reached after many rounds)");
        HolisticRta x = Bounds.with(tx(152, 152), tx(188, 142), tx(122, 122));
        int[][] steps = {
            {0, 0, 13, 35}, {1, 0, 2, 28}, {2, 1, 2, 31}, {0, 0, 4, 48}, {0, 1, 6, 20}, {2, 1, 17, 50}, {0, 1, 8, 14},
            {0, 1, 4, 83}, {0, 2, 16, 24}, {1, 1, 17, 15}, {2, 3, 1, 97}, {2, 1, 2, 45}, {2, 1, 3, 78}, {1, 0, 1, 47},
        };
        for (int[] s : steps) {
            x.addStep(s[0], s[1], s[2], s[3]);
        }
        Bounds.due("all finite", x, 1, 18, 20, 35, 22, 63, 66, 131, 135, 151, 80, 67, 100, 107, 85);
        HolisticRta y = Bounds.with(tx(66, 66), tx(92, 92), tx(54, 54), tx(26, 14));
        int[][] more = {
            {0, 0, 1, 64}, {1, 2, 1, 26}, {2, 0, 2, 19}, {3, 1, 1, 58}, {0, 2, 1, 37}, {0, 1, 2, 86}, {1, BUS, 3, 38},
            {1, 2, 10, 84}, {0, 2, 2, 69}, {1, 1, 4, 55}, {2, 0, 17, 70}, {0, BUS, 8, 82}, {1, 2, 2, 27}, {0, 2, 5, 2},
            {1, 2, 1, 93}, {3, 0, 4, 59},
        };
        int[] none = new int[more.length];
        for (int i = 0; i < more.length; i++) {
            y.addStep(more[i][0], more[i][1], more[i][2], more[i][3]);
            none[i] = HolisticRta.UNBOUNDED;
        }
        Bounds.due("none is finite in the end", y, 2, none);
    }

    private static void oneInfiniteBoundRefuses() {
        Check.says("The configuration is ADMITTED when every bound is finite, else REFUSED.");
        for (int count = 1; count <= 5; count++) {
            for (int late = -1; late < count; late++) {
                HolisticRta x = new HolisticRta(4, 16);
                int[] bounds = new int[count];
                for (int tx = 0; tx < count; tx++) {
                    int resource = tx == 4 ? BUS : tx;
                    bounds[tx] = tx == late ? -1 : tx == 4 ? 10 : 5;
                    x.addTransaction(50, tx == late ? 4 : 50);
                    x.addStep(tx, resource, 5, 1);
                }
                Bounds.due(count + " steps, late is " + late, x, late == -1 ? 1 : 2, bounds);
            }
        }
    }

    private static void boundOfTheTail() {
        Check.says("The bound of transaction x is the bound of its tail.");
        HolisticRta x = Bounds.with(tx(50, 50), tx(60, 60), tx(60, 60));
        x.addStep(2, 2, 1, 1);
        x.addStep(1, 1, 7, 1);
        x.addStep(0, 0, 3, 1);
        x.addStep(1, 0, 2, 9);
        x.addStep(0, 1, 4, 9);
        // Step 2: 3 + 2. Step 4: 5 + 4. Step 1: 7 + 4. Step 3: 11 + 2.
        Bounds.due("three chains", x, 1, 1, 11, 5, 13, 9);
        Check.due("transactionBound(0)", x.transactionBound(0), 9);
        Check.due("transactionBound(1)", x.transactionBound(1), 13);
        Check.due("transactionBound(2), of one step", x.transactionBound(2), 1);
    }
}
