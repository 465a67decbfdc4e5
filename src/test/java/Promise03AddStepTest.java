/** Promise 3: addStep. */
public final class Promise03AddStepTest {
    private static final int BUS = HolisticRta.BUS;
    private static final int MIN = Values.MIN;
    private static final int MAX = Values.MAX;

    public static void main(String[] args) {
        transactionMustExist();
        capacityIsTheLimit();
        resourceMustExist();
        costRange();
        priorityRange();
        duplicatePriority();
        everyCostAndPriority();
        orderOfEveryTwoConditions();
        refusedChangesNothing();
        refusedByFullChangesNothing();
        refusedTakesNoPriority();
        newIdIsTheNumberBefore();
        resourceIsKept();
        costIsKept();
        priorityIsKept();
        firstStepIsHeadAndTail();
        laterStepIsTheTail();
        equalPrioritiesElsewhere();
        stateBecomesNotAnalysed();
        resets();
        othersAreKept();
        Check.end("Promise03AddStepTest");
    }

    private static HolisticRta with(int processors, int transactions) {
        HolisticRta x = new HolisticRta(processors, 16);
        for (int tx = 0; tx < transactions; tx++) {
            x.addTransaction(50, 50);
        }
        return x;
    }

    private static void transactionMustExist() {
        Check.says("1. tx is not an existing id: ERR_NO_TX.");
        for (int count = 0; count <= 8; count++) {
            HolisticRta x = with(1, count);
            for (int tx : new int[] {MIN, MIN + 1, -65536, -256, -2, -1, count, count + 1, 8, 9, 256, 65536, MAX - 1, MAX}) {
                Check.due(count + " exist, addStep(" + tx + ", 0, 1, 1)", x.addStep(tx, 0, 1, 1), -11);
            }
            for (int tx = 0; tx < count; tx++) {
                Check.due(count + " exist, addStep(" + tx + ", 0, 1, ..)", x.addStep(tx, 0, 1, tx + 1), tx);
            }
        }
    }

    private static void capacityIsTheLimit() {
        Check.says("2. stepCapacity steps already exist: ERR_FULL.");
        for (int capacity = 4; capacity <= 16; capacity++) {
            HolisticRta x = new HolisticRta(2, capacity);
            x.addTransaction(50, 50);
            x.addTransaction(50, 50);
            for (int s = 0; s < capacity; s++) {
                Check.due("capacity " + capacity + ", step " + s, x.addStep(s % 2, s % 3 == 2 ? BUS : s % 3, 1, s + 1), s);
            }
            for (int tx = 0; tx < 2; tx++) {
                Check.due("capacity " + capacity + ", one more of " + tx, x.addStep(tx, 0, 1, 99), -10);
                Check.due("capacity " + capacity + ", one more on the bus", x.addStep(tx, BUS, 1, 99), -10);
            }
            Check.due("capacity " + capacity + ", no step came of it", x.stepRemaining(capacity), -12);
        }
    }

    private static void resourceMustExist() {
        Check.says("3. resource is neither in 0..processors-1 nor BUS: ERR_RESOURCE.");
        int[] wrong = {MIN, MIN + 8, -256, -8, -2, -1, 4, 5, 6, 7, 9, 10, 16, 256, 264, 65536, 65544, MAX};
        for (int processors = 1; processors <= 4; processors++) {
            HolisticRta x = with(processors, 1);
            for (int r : wrong) {
                Check.due(processors + " processors, resource " + r, x.addStep(0, r, 1, 1), -13);
            }
            for (int r = processors; r < BUS; r++) {
                Check.due(processors + " processors, resource " + r, x.addStep(0, r, 1, 1), -13);
            }
            Check.due(processors + " processors, the first", x.addStep(0, 0, 1, 1), 0);
            Check.due(processors + " processors, the last", x.addStep(0, processors - 1, 1, 2), 1);
            Check.due(processors + " processors, the bus", x.addStep(0, BUS, 1, 1), 2);
        }
    }

    private static void costRange() {
        Check.says("4. cost is outside 1..MAX_COST: ERR_RANGE.");
        for (int resource : new int[] {0, 1, BUS}) {
            for (int cost : new int[] {MIN, MIN + 1, -65536, -256, -20, -1, 0, 21, 22, 100, 256, 257, 65537, MAX - 1, MAX}) {
                Check.due("resource " + resource + ", cost " + cost, with(2, 1).addStep(0, resource, cost, 1), -14);
            }
            for (int cost : new int[] {1, 2, 19, 20}) {
                Check.due("resource " + resource + ", cost " + cost, with(2, 1).addStep(0, resource, cost, 1), 0);
            }
        }
    }

    private static void priorityRange() {
        Check.says("5. priority is outside 1..MAX_PRIORITY: ERR_RANGE.");
        for (int resource : new int[] {0, 1, BUS}) {
            for (int p : new int[] {MIN, MIN + 1, -65536, -256, -100, -1, 0, 101, 102, 200, 256, 257, 65537, MAX - 1, MAX}) {
                Check.due("resource " + resource + ", priority " + p, with(2, 1).addStep(0, resource, 1, p), -14);
            }
            for (int p : new int[] {1, 2, 99, 100}) {
                Check.due("resource " + resource + ", priority " + p, with(2, 1).addStep(0, resource, 1, p), 0);
            }
        }
    }

    private static void duplicatePriority() {
        Check.says("6. A step on the same resource (of any transaction) already has this priority: ERR_DUPLICATE.");
        for (int resource : new int[] {0, 1, 2, 3, BUS}) {
            HolisticRta x = with(4, 3);
            int[] priorities = {1, 2, 50, 99, 100};
            for (int i = 0; i < priorities.length; i++) {
                Check.due("resource " + resource + ", priority " + priorities[i],
                    x.addStep(i % 2, resource, 1, priorities[i]), i);
            }
            for (int p : priorities) {
                for (int tx = 0; tx < 3; tx++) {
                    // Whether it was the first step or the latest one that has it.
                    Check.due("resource " + resource + ", priority " + p + " again, of " + tx,
                        x.addStep(tx, resource, 20, p), -15);
                }
            }
            for (int p : new int[] {3, 49, 51, 98}) {
                Check.due("resource " + resource + ", the neighbour " + p, x.addStep(2, resource, 1, p) > 0);
            }
        }
    }

    private static void everyCostAndPriority() {
        Check.says("cost is outside 1..MAX_COST .. priority is outside 1..MAX_PRIORITY (all of them)");
        for (int cost = -2; cost <= 23; cost++) {
            for (int priority = -2; priority <= 103; priority++) {
                boolean fine = cost >= 1 && cost <= 20 && priority >= 1 && priority <= 100;
                Check.due("addStep(0, 0, " + cost + ", " + priority + ")", with(1, 1).addStep(0, 0, cost, priority),
                    fine ? 0 : -14);
            }
        }
    }

    /** For every two conditions a call that meets both: the answer is the earlier one's. */
    private static void orderOfEveryTwoConditions() {
        Check.says("Conditions are examined in this order");
        HolisticRta x = new HolisticRta(1, 4);
        x.addTransaction(50, 50);
        x.addStep(0, 0, 1, 7);
        x.addStep(0, BUS, 1, 8);
        Check.due("1 before 3", x.addStep(1, 1, 1, 1), -11);
        Check.due("1 before 4", x.addStep(1, 0, 0, 1), -11);
        Check.due("1 before 5", x.addStep(1, 0, 1, 0), -11);
        Check.due("1 before 6", x.addStep(1, 0, 1, 7), -11);
        Check.due("1 before 3, 4 and 5", x.addStep(-1, -1, -1, -1), -11);
        Check.due("1 before the rest, least", x.addStep(MIN, MIN, MIN, MIN), -11);
        Check.due("1 before the rest, greatest", x.addStep(MAX, MAX, MAX, MAX), -11);
        Check.due("3 before 4", x.addStep(0, 1, 0, 1), -13);
        Check.due("3 before 4, above", x.addStep(0, 9, 21, 1), -13);
        Check.due("3 before 5", x.addStep(0, 1, 1, 0), -13);
        Check.due("3 before 5, above", x.addStep(0, -1, 1, 101), -13);
        Check.due("3 before a priority that processor 0 has", x.addStep(0, 1, 1, 7), -13);
        Check.due("3 before a priority that the bus has", x.addStep(0, 7, 1, 8), -13);
        Check.due("3 before 4 and 5", x.addStep(0, MAX, MIN, MAX), -13);
        Check.due("4 and 5", x.addStep(0, 0, 0, 0), -14);
        Check.due("4 before 6", x.addStep(0, 0, 0, 7), -14);
        Check.due("4 before 6, above", x.addStep(0, BUS, 21, 8), -14);
        Check.due("4 before 6, least", x.addStep(0, 0, MIN, 7), -14);
        Check.due("6 alone", x.addStep(0, 0, 1, 7), -15);
        Check.due("6 alone, the bus", x.addStep(0, BUS, 20, 8), -15);
        x.addStep(0, 0, 1, 1);
        x.addStep(0, 0, 1, 2);
        Check.due("1 before 2", x.addStep(1, 0, 1, 9), -11);
        Check.due("1 before 2, below", x.addStep(-1, 0, 1, 9), -11);
        Check.due("1 before all", x.addStep(1, 1, 0, 0), -11);
        Check.due("2 before 3", x.addStep(0, 1, 1, 9), -10);
        Check.due("2 before 4", x.addStep(0, 0, 0, 9), -10);
        Check.due("2 before 5", x.addStep(0, 0, 1, 0), -10);
        Check.due("2 before 6", x.addStep(0, 0, 1, 7), -10);
        Check.due("2 before 3, 4 and 5", x.addStep(0, MIN, MAX, MIN), -10);
        Check.due("2 alone", x.addStep(0, 0, 1, 9), -10);
    }

    private static void refusedChangesNothing() {
        Check.says("A refused call changes nothing at all.");
        for (Situation where : Situation.ROOMY) {
            where.unchangedBy(-11, "addStep(-1, 0, 1, 1)");
            where.unchangedBy(-11, "addStep(8, 0, 1, 1)");
            where.unchangedBy(-13, "addStep(0, 7, 1, 1)");
            where.unchangedBy(-13, "addStep(0, " + MIN + ", 1, 1)");
            where.unchangedBy(-14, "addStep(0, 0, 0, 1)");
            where.unchangedBy(-14, "addStep(0, 0, 21, 1)");
            where.unchangedBy(-14, "addStep(0, 0, 1, 0)");
            where.unchangedBy(-14, "addStep(0, 8, 1, 101)");
        }
        Situation.FRESH.unchangedBy(-11, "addStep(0, 0, 1, 1)", "addStep(-1, 0, 1, 1)");
        Situation.INCOMPLETE.unchangedBy(-15, "addStep(1, 0, 1, 5)", "addStep(1, 8, 1, 5)");
        Situation.ADMITTED.unchangedBy(-15, "addStep(0, 0, 1, 30)", "addStep(1, 0, 1, 10)", "addStep(1, 8, 2, 20)");
        Situation.REFUSED.unchangedBy(-15, "addStep(0, 0, 1, 30)");
        Situation.NOT_ANALYSED.unchangedBy(-15, "addStep(0, 1, 1, 10)");
        Situation.OVERLOADED.unchangedBy(-15, "addStep(0, 8, 1, 90)", "addStep(2, 1, 1, 5)", "addStep(1, 0, 1, 50)");
        Situation.AT_THE_HORIZON.unchangedBy(-15, "addStep(0, 8, 1, 9)");
    }

    private static void refusedByFullChangesNothing() {
        Check.says("A refused call changes nothing at all. (ERR_FULL)");
        for (Situation where : new Situation[] {Situation.STEPS_FULL, Situation.ALL_FULL, Situation.CALM_FULL}) {
            where.unchangedBy(-10, "addStep(0, 0, 1, 99)");
            where.unchangedBy(-10, "addStep(1, 8, 20, 100)", "addStep(1, 9, 0, 0)");
            where.unchangedBy(-11, "addStep(8, 0, 1, 99)", "addStep(-1, 0, 1, 99)");
        }
    }

    private static void refusedTakesNoPriority() {
        Check.says("A refused call changes nothing at all. (its priority is still free)");
        HolisticRta x = with(2, 2);
        x.addStep(0, 0, 1, 5);
        Check.due("ERR_NO_TX", x.addStep(2, 0, 1, 6), -11);
        Check.due("ERR_RANGE", x.addStep(1, 0, 21, 6), -14);
        Check.due("ERR_RESOURCE", x.addStep(1, 2, 1, 6), -13);
        Check.due("ERR_DUPLICATE", x.addStep(1, 0, 1, 5), -15);
        Check.due("on the bus", x.addStep(1, BUS, 1, 6), 1);
        Check.due("on processor 1", x.addStep(1, 1, 1, 6), 2);
        Check.due("on processor 0", x.addStep(1, 0, 1, 6), 3);
    }

    private static void newIdIsTheNumberBefore() {
        Check.says("Otherwise the call answers the new step id, which equals the number of steps that existed before "
            + "the call.");
        HolisticRta x = with(4, 8);
        int[] order = {7, 0, 3, 3, 1, 6, 0, 2, 5, 4, 7, 7, 1, 2, 3, 0};
        for (int s = 0; s < 16; s++) {
            Check.due("a refused one does not count", x.addStep(order[s], 0, 0, 1), -14);
            Check.due("step " + s, x.addStep(order[s], s % 4, 1, 10 + s), s);
        }
        Check.due("after five", Check.busy().addStep(1, 1, 1, 1), 5);
    }

    private static void resourceIsKept() {
        Check.says("The new step has tx(s) = tx, res(s) = resource ..");
        int[] resources = {0, 1, 2, 3, BUS};
        for (int resource : resources) {
            for (int tx = 0; tx < 8; tx++) {
                HolisticRta x = new HolisticRta(4, 16);
                for (int other = 0; other < 8; other++) {
                    x.addTransaction(100, 100);
                }
                x.addStep(tx, resource, 2, 50);
                for (int other = 0; other < 8; other++) {
                    if (other != tx) {
                        x.addStep(other, resource == 0 ? 1 : 0, 1, 1 + other);
                    }
                }
                x.run(2);
                for (int r : resources) {
                    String what = "transaction " + tx + " on " + resource + ", runningOn(" + r + ") is step 0";
                    Check.due(what, x.runningOn(r) == 0 == (r == resource));
                }
                Check.due("transaction " + tx + " has completed", x.completedCount(tx), 1);
                Check.due("transaction " + tx + " took", x.observedMax(tx), 2);
            }
        }
    }

    private static void costIsKept() {
        Check.says(".. C(s) = cost ..");
        for (int cost = 1; cost <= 20; cost++) {
            for (int resource : new int[] {0, BUS}) {
                HolisticRta x = with(1, 1);
                x.addStep(0, resource, cost, 1);
                x.run(1);
                Check.due("cost " + cost + " on " + resource + ", after one tick", x.stepRemaining(0), cost - 1);
                x.run(cost - 1);
                Check.due("cost " + cost + " on " + resource, x.stepObservedMax(0), cost);
                x.analyse();
                Check.due("cost " + cost + " on " + resource + ", bound", x.stepBound(0), resource == BUS ? 2 * cost : cost);
            }
        }
    }

    private static void priorityIsKept() {
        Check.says(".. and P(s) = priority.");
        for (int priority = 1; priority <= 100; priority++) {
            HolisticRta x = with(1, 2);
            int other = priority == 100 ? 99 : priority + 1;
            x.addStep(0, 0, 2, priority);
            x.addStep(1, 0, 3, other);
            x.analyse();
            Check.due("priority " + priority + " beside " + other, x.stepBound(0), priority > other ? 2 : 5);
            x.run(1);
            Check.due("priority " + priority + " beside " + other + " runs", x.runningOn(0), priority > other ? 0 : 1);
        }
    }

    private static void firstStepIsHeadAndTail() {
        Check.says("It becomes the tail of tx. If tx had no step, it is also the head.");
        HolisticRta x = with(1, 2);
        x.addStep(1, 0, 3, 1);
        x.addStep(0, 0, 2, 9);
        x.analyse();
        Check.due("the bound of the tail, 0", x.transactionBound(0), 2);
        Check.due("the bound of the tail, 1", x.transactionBound(1), 5);
        x.run(5);
        Check.due("head and tail of 0", x.observedMax(0), 2);
        Check.due("head and tail of 1", x.observedMax(1), 5);
    }

    private static void laterStepIsTheTail() {
        Check.says("Otherwise the previous tail becomes its pred, and the new step becomes that tail's next.");
        HolisticRta x = new HolisticRta(1, 16);
        x.addTransaction(200, 200);
        x.addTransaction(200, 200);
        x.addStep(1, BUS, 1, 1);
        for (int length = 1; length <= 15; length++) {
            x.addStep(0, 0, 1, length);
            x.run(length - 1);
            Check.due("length " + length + ", not completed before its end", x.completedCount(0), 0);
            x.run(1);
            Check.due("length " + length + ", the new step is the last to run", x.runningOn(0), length);
            Check.due("length " + length + ", completedCount(0)", x.completedCount(0), 1);
            Check.due("length " + length + ", observedMax(0)", x.observedMax(0), length);
            x.analyse();
            Check.due("length " + length + ", transactionBound(0)", x.transactionBound(0), x.stepBound(length));
        }
    }

    private static void equalPrioritiesElsewhere() {
        Check.says("Equal priorities on different resources are allowed.");
        for (int priority : new int[] {1, 50, 100}) {
            HolisticRta x = with(4, 2);
            int[] resources = {BUS, 3, 0, 2, 1};
            for (int i = 0; i < 5; i++) {
                Check.due("priority " + priority + " on " + resources[i], x.addStep(i % 2, resources[i], 1, priority), i);
            }
        }
    }

    private static void stateBecomesNotAnalysed() {
        Check.says("The call is a configuration change: NOT_ANALYSED ..");
        for (Situation where : Situation.ROOMY) {
            HolisticRta x = where.make();
            int step = x.addStep(0, 0, 1, 77);
            Check.due(where.name + ", addStep(0, 0, 1, 77)", step >= 0);
            Check.due(where.name + ", analysisState()", x.analysisState(), 0);
            for (int s = 0; s <= step; s++) {
                Check.due(where.name + ", stepBound(" + s + ")", x.stepBound(s), -2);
            }
            Check.due(where.name + ", transactionBound(0)", x.transactionBound(0), -2);
        }
    }

    private static void resets() {
        Check.says(".. then SIMULATION RESET.");
        HolisticRta x = Check.busy();
        x.addStep(1, 1, 1, 1);
        Check.reset("refused, under way", x, 2, 6);
        HolisticRta y = Situation.AT_THE_HORIZON.make();
        y.addStep(0, 0, 1, 1);
        Check.reset("at the horizon", y, 3, 5);
        HolisticRta z = Situation.TRANSACTIONS_FULL.make();
        z.addStep(7, 2, 1, 100);
        Check.reset("no room for a transaction", z, 8, 9);
    }

    private static void othersAreKept() {
        Check.says("CONFIGURATION CHANGE .. SIMULATION RESET .. O(x) and G(x) are kept. (addStep)");
        HolisticRta x = new HolisticRta(2, 4);
        x.addTransaction(10, 10);
        x.addTransaction(10, 10);
        x.addStep(0, 0, 1, 1);
        x.addStep(1, 1, 1, 1);
        x.setArrivals(0, 4, 3);
        x.setArrivals(1, 2, 1);
        x.addStep(0, 0, 1, 2);
        for (int t = 0; t < 60; t++) {
            x.run(1);
            int place = t < 4 ? 99 : (t - 4) % 13;
            Check.due("transaction 0, tick " + t, x.runningOn(0), place == 0 ? 0 : place == 1 ? 2 : -1);
            Check.due("transaction 1, tick " + t, x.runningOn(1), t >= 2 && (t - 2) % 11 == 0 ? 1 : -1);
        }
    }
}
