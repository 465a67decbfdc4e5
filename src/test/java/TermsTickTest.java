/** 'Terms used below', One TICK at time t: the four phases and their order. */
public final class TermsTickTest {
    private static final int BUS = HolisticRta.BUS;

    public static void main(String[] args) {
        arrivalsAtTheirTime();
        severalArrivalsAtOnce();
        arrivalInFlightIsDropped();
        droppedArrivalMovesNothing();
        arrivalAtTheVeryEnd();
        arrivalWorksInItsOwnTick();
        nextArrivalAfterATakenOne();
        nextArrivalAfterADroppedOne();
        mostUrgentPendingStepWorks();
        idleProcessor();
        everyResourceWorksInEveryTick();
        mostUrgentFrameGoesFirst();
        frameIsNotPreempted();
        frameArrivesInItsOwnTick();
        idleBus();
        completionIsOneAfterTheTick();
        greaterMaximumIsKept();
        doneFrameFreesTheBus();
        frameOfOneTick();
        otherCompletionsLeaveTheFrame();
        nextStepStartsInTheNextTick();
        nextStepGetsItsWholeCost();
        tailEndsTheFlight();
        onlyTheTailEndsTheFlight();
        completionsInOneTick();
        timeGoesByOne();
        Check.end("TermsTickTest");
    }

    /** One transaction and one step on processor 0. */
    private static HolisticRta one(int period, int cost, int offset, int gap) {
        HolisticRta x = new HolisticRta(1, 4);
        x.addTransaction(period, 1);
        x.addStep(0, 0, cost, 1);
        x.setArrivals(0, offset, gap);
        return x;
    }

    /** A step of cost 5 that is less urgent and one of cost 2 that is more, each with a transaction. */
    private static HolisticRta two(int resource, int offset, int urgentOffset) {
        HolisticRta x = new HolisticRta(1, 8);
        x.addTransaction(20, 20);
        x.addTransaction(20, 20);
        x.addStep(0, resource, 5, 1);
        x.addStep(1, resource, 2, 100);
        x.setArrivals(0, offset, 0);
        x.setArrivals(1, urgentOffset, 0);
        return x;
    }

    private static void ticks(String what, HolisticRta x, int resource, int... runners) {
        for (int t = 0; t < runners.length; t++) {
            Check.due(what + ", run(1)", x.run(1), 1);
            Check.due(what + ", tick " + t + " runs", x.runningOn(resource), runners[t]);
        }
    }

    private static void counts(String what, HolisticRta x, int tx, int max, int completed, int overruns) {
        Check.due(what + ", observedMax(" + tx + ")", x.observedMax(tx), max);
        Check.due(what + ", completedCount(" + tx + ")", x.completedCount(tx), completed);
        Check.due(what + ", overrunCount(" + tx + ")", x.overrunCount(tx), overruns);
    }

    private static void arrivalsAtTheirTime() {
        Check.says("1. Arrivals. For each transaction x .. with N(x) == t");
        for (int offset : new int[] {0, 1, 2, 199, 200}) {
            HolisticRta x = one(200, 1, offset, 200);
            for (int t = 0; t <= 410; t++) {
                x.run(1);
                Check.due("offset " + offset + ", tick " + t, x.runningOn(0), t == offset || t == offset + 400 ? 0 : -1);
            }
        }
    }

    private static void severalArrivalsAtOnce() {
        Check.says("1. Arrivals. For each transaction x in increasing id (all that are due in this tick)");
        HolisticRta x = new HolisticRta(1, 8);
        for (int tx = 0; tx < 8; tx++) {
            x.addTransaction(100, 100);
            x.addStep(tx, 0, tx + 1, 10 + tx);
            x.setArrivals(tx, 5, 0);
        }
        x.run(5);
        for (int s = 0; s < 8; s++) {
            Check.due("before, stepRemaining(" + s + ")", x.stepRemaining(s), 0);
        }
        x.run(1);
        for (int s = 0; s < 8; s++) {
            Check.due("after, stepRemaining(" + s + ")", x.stepRemaining(s), s == 7 ? 7 : s + 1);
        }
    }

    private static void arrivalInFlightIsDropped() {
        Check.says("if x is in flight, its overrun count grows by 1 and this arrival is dropped");
        HolisticRta x = one(3, 5, 0, 0);
        x.run(3);
        counts("before the second arrival", x, 0, -1, 0, 0);
        x.run(1);
        counts("the second arrival", x, 0, -1, 0, 1);
        Check.due("its work is not begun anew", x.stepRemaining(0), 1);
        x.run(1);
        counts("the first is done", x, 0, 5, 1, 1);
        x.run(1);
        Check.due("the dropped one is not made up for", x.runningOn(0), -1);
        x.run(1);
        Check.due("the third arrival is taken", x.runningOn(0), 0);
        counts("the third arrival", x, 0, 5, 1, 1);
    }

    private static void droppedArrivalMovesNothing() {
        Check.says("if x is in flight .. this arrival is dropped (A(x) and rem stay, whichever step is at work)");
        HolisticRta x = new HolisticRta(2, 8);
        x.addTransaction(4, 4);
        x.addStep(0, 0, 3, 1);
        x.addStep(0, 1, 6, 1);
        x.setArrivals(0, 5, 0);
        // In flight from 5 to 14: the arrivals at 9 and 13 are dropped while the head has no work left.
        int[] head = {2, 1, 0, 0, 0, 0, 0, 0, 0, 0, 0, 0, 2};
        int[] tail = {0, 0, 6, 5, 4, 3, 2, 1, 0, 0, 0, 0, 0};
        x.run(5);
        for (int i = 0; i < head.length; i++) {
            x.run(1);
            Check.due("after tick " + (5 + i) + ", stepRemaining(0)", x.stepRemaining(0), head[i]);
            Check.due("after tick " + (5 + i) + ", stepRemaining(1)", x.stepRemaining(1), tail[i]);
        }
        counts("then", x, 0, 9, 1, 2);
        Check.due("stepObservedMax(0)", x.stepObservedMax(0), 3);
        Check.due("stepObservedMax(1)", x.stepObservedMax(1), 9);
    }

    private static void arrivalAtTheVeryEnd() {
        Check.says("x is no longer in flight (from c on, and no earlier)");
        int[][] rows = {{4, 4, 0}, {5, 4, 1}, {3, 4, 0}, {1, 1, 0}, {2, 1, 1}, {20, 20, 0}, {20, 19, 1}};
        for (int[] row : rows) {
            HolisticRta x = one(row[1], row[0], 0, 0);
            x.run(row[1] + 1);
            String what = "cost " + row[0] + ", period " + row[1];
            Check.due(what + ", overrunCount(0)", x.overrunCount(0), row[2]);
            Check.due(what + ", stepRemaining(0)", x.stepRemaining(0), row[2] == 1 ? row[0] - row[1] - 1 : row[0] - 1);
        }
        HolisticRta full = one(5, 5, 0, 0);
        full.run(1000);
        counts("back to back", full, 0, 5, 200, 0);
        HolisticRta every = one(1, 1, 0, 0);
        every.run(1000);
        counts("in every tick", every, 0, 1, 1000, 0);
    }

    private static void arrivalWorksInItsOwnTick() {
        Check.says("else x becomes in flight, A(x) = t and rem(head of x) = C(head of x).");
        for (int offset : new int[] {0, 7, 200}) {
            HolisticRta x = one(100, 20, offset, 0);
            x.run(offset);
            Check.due("offset " + offset + ", before", x.stepRemaining(0), 0);
            x.run(1);
            Check.due("offset " + offset + ", the tick of the arrival has done one", x.stepRemaining(0), 19);
            x.run(19);
            counts("offset " + offset, x, 0, 20, 1, 0);
        }
        HolisticRta chain = new HolisticRta(2, 8);
        chain.addTransaction(50, 50);
        chain.addStep(0, 0, 3, 1);
        chain.addStep(0, 1, 4, 1);
        chain.run(1);
        Check.due("the head", chain.stepRemaining(0), 2);
        Check.due("not the tail", chain.stepRemaining(1), 0);
    }

    private static void nextArrivalAfterATakenOne() {
        Check.says("In both cases N(x) = t + T(x) + G(x). (taken)");
        int[][] rows = {{1, 0, 0}, {1, 0, 1}, {1, 3, 200}, {2, 1, 0}, {200, 0, 0}, {200, 200, 200}, {200, 5, 1}, {7, 3, 2}};
        for (int[] row : rows) {
            HolisticRta x = one(row[0], 1, row[1], row[2]);
            for (int t = 0; t < 1300; t++) {
                x.run(1);
                boolean arrival = t >= row[1] && (t - row[1]) % (row[0] + row[2]) == 0;
                String what = "period " + row[0] + ", offset " + row[1] + ", gap " + row[2] + ", tick " + t;
                Check.due(what, x.runningOn(0), arrival ? 0 : -1);
            }
        }
    }

    private static void nextArrivalAfterADroppedOne() {
        Check.says("In both cases N(x) = t + T(x) + G(x). (dropped)");
        HolisticRta x = one(3, 7, 2, 2);
        // Arrivals at 2, 7 (dropped), 12, 17 (dropped), 22: work in [2,9), [12,19), [22,29).
        for (int t = 0; t < 102; t++) {
            x.run(1);
            Check.due("tick " + t, x.runningOn(0), t >= 2 && (t - 2) % 10 < 7 ? 0 : -1);
            Check.due("after tick " + t + ", overruns", x.overrunCount(0), t < 7 ? 0 : 1 + (t - 7) / 10);
        }
        HolisticRta every = one(1, 20, 0, 0);
        every.run(1000);
        counts("arrivals in every tick, 19 of 20 dropped", every, 0, 20, 50, 950);
    }

    private static void mostUrgentPendingStepWorks() {
        Check.says("if a step on p is pending, the pending step on p with the highest priority has its rem decreased by 1 "
            + "and is p's last runner");
        HolisticRta x = two(0, 0, 2);
        ticks("preempted", x, 0, 0, 0, 1, 1, 0, 0, 0, -1);
        counts("the preempted", x, 0, 7, 1, 0);
        counts("the urgent", x, 1, 2, 1, 0);
        ticks("both at once", two(0, 0, 0), 0, 1, 1, 0, 0, 0, 0, 0, -1);
        ticks("in the last tick", two(0, 0, 4), 0, 0, 0, 0, 0, 1, 1, 0, -1);
        ticks("just after the end", two(0, 0, 5), 0, 0, 0, 0, 0, 0, 1, 1, -1);
        HolisticRta three = new HolisticRta(1, 8);
        int[] priorities = {50, 51, 49};
        for (int tx = 0; tx < 3; tx++) {
            three.addTransaction(50, 50);
            three.addStep(tx, 0, 2, priorities[tx]);
        }
        ticks("three at once", three, 0, 1, 1, 0, 0, 2, 2, -1);
    }

    private static void idleProcessor() {
        Check.says("else p's last runner is NONE.");
        HolisticRta x = new HolisticRta(4, 8);
        x.addTransaction(10, 10);
        x.addStep(0, 2, 1, 1);
        x.run(1);
        for (int p = 0; p < 4; p++) {
            Check.due("tick 0, processor " + p, x.runningOn(p), p == 2 ? 0 : -1);
        }
        x.run(1);
        for (int p = 0; p < 4; p++) {
            Check.due("tick 1, processor " + p, x.runningOn(p), -1);
        }
    }

    private static void everyResourceWorksInEveryTick() {
        Check.says("For each processor p in increasing number: .. Then the bus");
        HolisticRta x = new HolisticRta(4, 8);
        for (int tx = 0; tx < 5; tx++) {
            x.addTransaction(50, 50);
            x.addStep(tx, tx == 4 ? BUS : tx, 2 + tx, 1);
        }
        for (int t = 0; t < 8; t++) {
            x.run(1);
            for (int s = 0; s < 5; s++) {
                boolean works = t < 2 + s;
                Check.due("tick " + t + ", step " + s, x.runningOn(s == 4 ? BUS : s), works ? s : -1);
                Check.due("tick " + t + ", what is left of " + s, x.stepRemaining(s), works ? 1 + s - t : 0);
            }
        }
    }

    private static void mostUrgentFrameGoesFirst() {
        Check.says("if the frame is none and a bus step is pending, the pending bus step with the highest priority becomes "
            + "the frame");
        ticks("both at once", two(BUS, 0, 0), BUS, 1, 1, 0, 0, 0, 0, 0, -1);
        HolisticRta x = new HolisticRta(1, 8);
        int[] priorities = {5, 3, 9, 7};
        for (int tx = 0; tx < 4; tx++) {
            x.addTransaction(30, 30);
            x.addStep(tx, BUS, 2, priorities[tx]);
        }
        x.setArrivals(0, 1, 0);
        x.setArrivals(2, 1, 0);
        x.setArrivals(3, 4, 0);
        // Step 3 arrives just as frame 2 is done, and goes before step 0, which has waited longer.
        ticks("four frames", x, BUS, 1, 1, 2, 2, 3, 3, 0, 0, -1);
    }

    private static void frameIsNotPreempted() {
        Check.says("If there is a frame, rem(frame) decreases by 1 and the frame is the bus's last runner");
        for (int urgent = 1; urgent <= 4; urgent++) {
            HolisticRta x = two(BUS, 0, urgent);
            ticks("the urgent one at " + urgent, x, BUS, 0, 0, 0, 0, 0, 1, 1, -1);
            counts("the frame, urgent at " + urgent, x, 0, 5, 1, 0);
            counts("the urgent at " + urgent, x, 1, 7 - urgent, 1, 0);
        }
        HolisticRta left = two(BUS, 0, 1);
        for (int t = 0; t < 7; t++) {
            left.run(1);
            Check.due("after tick " + t + ", the frame", left.stepRemaining(0), t < 5 ? 4 - t : 0);
            Check.due("after tick " + t + ", the one that waits", left.stepRemaining(1), t < 1 ? 0 : t < 5 ? 2 : 6 - t);
        }
    }

    private static void frameArrivesInItsOwnTick() {
        Check.says("1. Arrivals. .. 2. Execution. (an arrival is there before the frame is chosen)");
        ticks("both at 3", two(BUS, 3, 3), BUS, -1, -1, -1, 1, 1, 0, 0, 0, 0, 0, -1);
        ticks("the urgent one tick later", two(BUS, 3, 4), BUS, -1, -1, -1, 0, 0, 0, 0, 0, 1, 1, -1);
        ticks("the urgent one tick earlier", two(BUS, 3, 2), BUS, -1, -1, 1, 1, 0, 0, 0, 0, 0, -1);
        ticks("just as the frame before is done", two(BUS, 0, 5), BUS, 0, 0, 0, 0, 0, 1, 1, -1);
    }

    private static void idleBus() {
        Check.says("else the bus's last runner is NONE.");
        ticks("before, between and after", two(BUS, 1, 8), BUS, -1, 0, 0, 0, 0, 0, -1, -1, 1, 1, -1, -1);
        HolisticRta none = one(10, 2, 0, 0);
        ticks("no step on the bus", none, BUS, -1, -1, -1);
    }

    private static void completionIsOneAfterTheTick() {
        Check.says("let c = t + 1");
        for (int cost = 1; cost <= 20; cost++) {
            HolisticRta x = one(50, cost, 9, 0);
            x.run(9 + cost - 1);
            Check.due("cost " + cost + ", one tick before", x.stepObservedMax(0), -1);
            x.run(1);
            Check.due("cost " + cost + ", stepObservedMax(0)", x.stepObservedMax(0), cost);
            counts("cost " + cost, x, 0, cost, 1, 0);
        }
    }

    private static void greaterMaximumIsKept() {
        Check.says("the observed maximum of s becomes the greater of it and c - A(x); NONE counts as below everything");
        // Transaction 0 has cost 2 and arrives at 0, 10, 20, ..; an urgent one of cost 5 meets the one at 10.
        HolisticRta x = new HolisticRta(1, 8);
        x.addTransaction(10, 10);
        x.addTransaction(200, 200);
        x.addStep(0, 0, 2, 1);
        x.addStep(1, 0, 5, 9);
        x.setArrivals(1, 10, 0);
        int[] ends = {2, 17, 22, 32};
        int[] maxima = {2, 7, 7, 7};
        Check.due("before the first", x.stepObservedMax(0), -1);
        for (int i = 0; i < ends.length; i++) {
            x.run(ends[i] - x.now());
            Check.due("at " + ends[i] + ", stepObservedMax(0)", x.stepObservedMax(0), maxima[i]);
            counts("at " + ends[i], x, 0, maxima[i], i + 1, 0);
        }
    }

    private static void doneFrameFreesTheBus() {
        Check.says("if s is the frame, the frame becomes none");
        HolisticRta x = new HolisticRta(1, 8);
        x.addTransaction(50, 50);
        x.addTransaction(4, 4);
        x.addStep(0, BUS, 3, 1);
        x.addStep(1, BUS, 3, 2);
        // The more urgent arrives at 0, 4, 8: the bus is free for the other at 3, and for it again at 6.
        ticks("in turns", x, BUS, 1, 1, 1, 0, 0, 0, 1, 1, 1, -1, -1, -1, 1);
        HolisticRta chain = new HolisticRta(1, 8);
        chain.addTransaction(50, 50);
        chain.addStep(0, BUS, 2, 1);
        chain.addStep(0, BUS, 2, 2);
        chain.addStep(0, BUS, 1, 3);
        ticks("a chain on the bus", chain, BUS, 0, 0, 1, 1, 2, -1);
    }

    private static void frameOfOneTick() {
        Check.says("if s is the frame, the frame becomes none (a frame of one tick)");
        HolisticRta x = new HolisticRta(1, 8);
        x.addTransaction(50, 50);
        x.addTransaction(2, 2);
        x.addTransaction(50, 50);
        x.addStep(0, BUS, 1, 1);
        x.addStep(1, BUS, 1, 3);
        x.addStep(2, BUS, 1, 2);
        ticks("frames of one tick", x, BUS, 1, 2, 1, 0, 1, -1, 1, -1);
    }

    /** Transaction 0 is a long frame; the head of transaction 1, on the processor, ends while it is under way. */
    private static void otherCompletionsLeaveTheFrame() {
        Check.says("if s is the frame (the completion of another step leaves the frame as it is)");
        HolisticRta x = new HolisticRta(1, 8);
        x.addTransaction(50, 50);
        x.addTransaction(50, 50);
        x.addStep(0, BUS, 8, 1);
        x.addStep(1, 0, 2, 1);
        x.addStep(1, BUS, 1, 9);
        ticks("the frame has the lower id", x, BUS, 0, 0, 0, 0, 0, 0, 0, 0, 2, -1);
        HolisticRta y = new HolisticRta(1, 8);
        y.addTransaction(50, 50);
        y.addTransaction(50, 50);
        y.addStep(1, 0, 2, 1);
        y.addStep(0, BUS, 8, 1);
        y.addStep(1, BUS, 1, 9);
        ticks("the frame has the greater id", y, BUS, 1, 1, 1, 1, 1, 1, 1, 1, 2, -1);
    }

    private static void nextStepStartsInTheNextTick() {
        Check.says("if s is not the tail, rem(next(s)) = C(next(s)) (after the execution of this tick)");
        int[] resources = {0, 1, 2, 3, BUS};
        for (int from : resources) {
            for (int to : resources) {
                HolisticRta x = new HolisticRta(4, 8);
                x.addTransaction(30, 30);
                x.addStep(0, from, 1, 1);
                x.addStep(0, to, 1, 2);
                String what = "from " + from + " to " + to;
                x.run(1);
                Check.due(what + ", the head", x.runningOn(from), 0);
                Check.due(what + ", the tail waits", x.stepRemaining(1), 1);
                Check.due(what + ", not completed", x.completedCount(0), 0);
                x.run(1);
                Check.due(what + ", the tail", x.runningOn(to), 1);
                counts(what, x, 0, 2, 1, 0);
            }
        }
    }

    private static void nextStepGetsItsWholeCost() {
        Check.says("if s is not the tail, rem(next(s)) = C(next(s))");
        HolisticRta x = new HolisticRta(1, 8);
        x.addTransaction(100, 100);
        int[] costs = {1, 20, 2, 19};
        for (int s = 0; s < 4; s++) {
            x.addStep(0, s % 2 == 0 ? 0 : BUS, costs[s], s + 1);
        }
        int end = 0;
        for (int s = 0; s < 3; s++) {
            x.run(costs[s]);
            end += costs[s];
            Check.due("stepRemaining(" + s + ")", x.stepRemaining(s), 0);
            Check.due("stepObservedMax(" + s + ")", x.stepObservedMax(s), end);
            Check.due("stepRemaining(" + (s + 1) + ")", x.stepRemaining(s + 1), costs[s + 1]);
        }
    }

    private static void tailEndsTheFlight() {
        Check.says("if s is the tail, x is no longer in flight, its completed count grows by 1, and its observed maximum "
            + "becomes the greater of it and c - A(x)");
        HolisticRta x = new HolisticRta(2, 8);
        x.addTransaction(9, 9);
        x.addStep(0, 0, 3, 1);
        x.addStep(0, BUS, 2, 1);
        x.addStep(0, 1, 4, 1);
        for (int i = 1; i <= 5; i++) {
            x.run(8);
            counts("before the end of instance " + i, x, 0, i == 1 ? -1 : 9, i - 1, 0);
            x.run(1);
            counts("at the end of instance " + i, x, 0, 9, i, 0);
        }
    }

    private static void onlyTheTailEndsTheFlight() {
        Check.says("if s is the tail (no other step ends the flight)");
        HolisticRta x = new HolisticRta(2, 8);
        x.addTransaction(40, 40);
        x.addStep(0, 0, 3, 1);
        x.addStep(0, BUS, 4, 1);
        x.addStep(0, 1, 5, 1);
        x.setArrivals(0, 6, 0);
        x.run(6 + 3);
        counts("after the head", x, 0, -1, 0, 0);
        x.run(4);
        counts("after the middle", x, 0, -1, 0, 0);
        x.run(5);
        counts("after the tail", x, 0, 12, 1, 0);
        HolisticRta y = new HolisticRta(2, 8);
        y.addTransaction(3, 3);
        y.addStep(0, 0, 3, 1);
        y.addStep(0, 1, 1, 1);
        // The arrival at 3 meets a head that is done and a tail that is not.
        y.run(4);
        counts("an arrival between head and tail", y, 0, 4, 1, 1);
    }

    private static void completionsInOneTick() {
        Check.says("3. Completions. For each step s in increasing id that was decreased in phase 2 and now has rem(s) == 0");
        HolisticRta x = new HolisticRta(4, 16);
        for (int tx = 0; tx < 5; tx++) {
            x.addTransaction(30, 30);
            x.addStep(tx, tx == 4 ? BUS : tx, 3, 9);
        }
        for (int tx = 0; tx < 5; tx++) {
            // Every second step goes on where another transaction has just ended.
            x.addStep(tx, tx == 3 ? BUS : (tx + 1) % 5, 2, 8);
        }
        x.run(2);
        for (int s = 0; s < 10; s++) {
            Check.due("at 2, stepRemaining(" + s + ")", x.stepRemaining(s), s < 5 ? 1 : 0);
        }
        x.run(1);
        for (int s = 0; s < 10; s++) {
            Check.due("at 3, stepRemaining(" + s + ")", x.stepRemaining(s), s < 5 ? 0 : 2);
            Check.due("at 3, stepObservedMax(" + s + ")", x.stepObservedMax(s), s < 5 ? 3 : -1);
        }
        x.run(2);
        for (int tx = 0; tx < 5; tx++) {
            counts("at 5", x, tx, 5, 1, 0);
        }
    }

    private static void timeGoesByOne() {
        Check.says("4. Time. now = t + 1.");
        HolisticRta x = one(7, 3, 2, 1);
        for (int t = 1; t <= 50; t++) {
            x.run(1);
            Check.due("after tick " + t, x.now(), t);
        }
    }
}
