/** 'Terms used below', The system: resources, ids, priorities, chains, COMPLETE. */
public final class TermsSystemTest {
    private static final int BUS = HolisticRta.BUS;

    public static void main(String[] args) {
        processorsAndBus();
        deadlineWithinPeriod();
        transactionIds();
        stepIds();
        biggerIsMoreUrgent();
        biggerIsMoreUrgentInTheAnalysis();
        noEqualPriorities();
        headAndTailOfOneStep();
        longestChain();
        predAndNextAreOfTheSameTransaction();
        completeNeedsATransaction();
        completeNeedsAStepInEveryTransaction();
        Check.end("TermsSystemTest");
    }

    private static void processorsAndBus() {
        Check.says("Processors are numbered 0..processors-1. The bus is resource BUS.");
        for (int processors = 1; processors <= 4; processors++) {
            HolisticRta x = new HolisticRta(processors, 16);
            x.addTransaction(100, 100);
            String what = processors + " processors, ";
            Check.due(what + "the one before the first", x.addStep(0, -1, 1, 1), -13);
            for (int p = 0; p < processors; p++) {
                Check.due(what + "processor " + p, x.addStep(0, p, 1, 1), p);
            }
            for (int r = processors; r < BUS; r++) {
                Check.due(what + "resource " + r, x.addStep(0, r, 1, 1), -13);
            }
            Check.due(what + "the bus", x.addStep(0, BUS, 1, 1), processors);
            Check.due(what + "the one after the bus", x.addStep(0, BUS + 1, 1, 1), -13);
            for (int tick = 0; tick <= processors; tick++) {
                x.run(1);
                Check.due(what + "tick " + tick, x.runningOn(tick == processors ? BUS : tick), tick);
            }
        }
    }

    private static void deadlineWithinPeriod() {
        Check.says("A transaction x has period T(x) and end-to-end deadline D(x), with 1 <= D(x) <= T(x).");
        for (int period = 1; period <= 200; period++) {
            HolisticRta x = new HolisticRta(1, 4);
            Check.due("period " + period + ", deadline 0", x.addTransaction(period, 0), -14);
            Check.due("period " + period + ", deadline one more", x.addTransaction(period, period + 1), -14);
            Check.due("period " + period + ", deadline 1", x.addTransaction(period, 1), 0);
            Check.due("period " + period + ", deadline the same", x.addTransaction(period, period), 1);
        }
    }

    private static void transactionIds() {
        Check.says("Transaction ids are 0, 1, 2, ... in the order of successful addTransaction calls.");
        HolisticRta x = new HolisticRta(1, 16);
        for (int id = 0; id < 8; id++) {
            Check.due("a refused one takes no id", x.addTransaction(201, 1), -14);
            Check.due("nor does this one", x.addTransaction(10, 11), -14);
            Check.due("transaction " + id, x.addTransaction(10 + id, 10 + id), id);
            x.addStep(id, 0, 1, id + 1);
        }
        // Which id is which is seen by the periods: transaction id arrives again at 10 + id.
        x.run(10);
        for (int id = 0; id < 8; id++) {
            Check.due("before " + (10 + id) + ", completedCount(" + id + ")", x.completedCount(id), 1);
            x.run(1);
            Check.due("at " + (10 + id) + ", runningOn(0)", x.runningOn(0), id);
        }
    }

    private static void stepIds() {
        Check.says("Step ids are 0, 1, 2, ... in the order of successful addStep calls, counted over all transactions.");
        HolisticRta x = new HolisticRta(2, 16);
        x.addTransaction(100, 100);
        x.addTransaction(100, 100);
        x.addTransaction(100, 100);
        for (int id = 0; id < 16; id++) {
            Check.due("a refused one takes no id", x.addStep(id % 3, 0, 21, 1), -14);
            Check.due("nor does this one", x.addStep(3, 0, 1, 1), -11);
            Check.due("step " + id, x.addStep(id % 3, id % 2, 1 + id, 1 + id), id);
            Check.due("the id after it", x.stepRemaining(id + 1), -12);
        }
        x.run(1);
        Check.due("the head of transaction 2, processor 0", x.runningOn(0), 2);
        Check.due("it has cost 3", x.stepRemaining(2), 2);
    }

    /** Transaction 0 and 1 with a step each, on one resource. */
    private static HolisticRta two(int resource, int priority0, int priority1) {
        HolisticRta x = new HolisticRta(1, 4);
        x.addTransaction(100, 100);
        x.addTransaction(100, 100);
        x.addStep(0, resource, 3, priority0);
        x.addStep(1, resource, 3, priority1);
        return x;
    }

    private static final int[][] PRIORITIES = {{1, 2}, {49, 50}, {99, 100}, {1, 100}, {9, 10}};

    private static void biggerIsMoreUrgent() {
        Check.says("A bigger number is more urgent.");
        for (int[] row : PRIORITIES) {
            for (int resource : new int[] {0, BUS}) {
                String what = "priorities " + row[0] + " and " + row[1] + " on " + resource;
                HolisticRta x = two(resource, row[0], row[1]);
                x.run(1);
                Check.due(what + ", the later step is more urgent", x.runningOn(resource), 1);
                HolisticRta y = two(resource, row[1], row[0]);
                y.run(1);
                Check.due(what + ", the earlier step is more urgent", y.runningOn(resource), 0);
            }
        }
    }

    private static void biggerIsMoreUrgentInTheAnalysis() {
        Check.says("A bigger number is more urgent. (analysis)");
        for (int[] row : PRIORITIES) {
            String what = "priorities " + row[0] + " and " + row[1];
            HolisticRta x = two(0, row[0], row[1]);
            x.analyse();
            Check.due(what + ", the less urgent", x.stepBound(0), 6);
            Check.due(what + ", the more urgent", x.stepBound(1), 3);
            HolisticRta y = two(0, row[1], row[0]);
            y.analyse();
            Check.due(what + " turned, the more urgent", y.stepBound(0), 3);
            Check.due(what + " turned, the less urgent", y.stepBound(1), 6);
        }
    }

    private static void noEqualPriorities() {
        Check.says("On one resource no two steps have equal priority.");
        for (int resource : new int[] {0, 1, 2, 3, BUS}) {
            HolisticRta x = new HolisticRta(4, 16);
            x.addTransaction(100, 100);
            x.addTransaction(100, 100);
            for (int priority : new int[] {1, 2, 50, 99, 100}) {
                String what = "resource " + resource + ", priority " + priority;
                Check.due(what, x.addStep(0, resource, 1, priority) >= 0);
                Check.due(what + " again", x.addStep(0, resource, 1, priority), -15);
                Check.due(what + " again, other transaction", x.addStep(1, resource, 1, priority), -15);
            }
        }
    }

    private static void headAndTailOfOneStep() {
        Check.says("The first is its HEAD and the last is its TAIL. (a chain of one step is both)");
        HolisticRta x = new HolisticRta(1, 4);
        x.addTransaction(10, 10);
        x.addStep(0, 0, 2, 1);
        Check.due("analyse()", x.analyse(), 1);
        Check.due("the bound of its tail", x.transactionBound(0), 2);
        x.run(2);
        Check.due("its head started and its tail is done", x.completedCount(0), 1);
    }

    private static void longestChain() {
        Check.says("The steps of a transaction form a chain in the order they were added to it.");
        HolisticRta x = new HolisticRta(1, 16);
        x.addTransaction(200, 200);
        for (int s = 0; s < 16; s++) {
            // The later steps are the more urgent, which must not bring them forward.
            x.addStep(0, 0, 1, 10 + s);
        }
        for (int s = 0; s < 16; s++) {
            Check.due("completedCount(0) before tick " + s, x.completedCount(0), 0);
            x.run(1);
            Check.due("tick " + s, x.runningOn(0), s);
            Check.due("stepObservedMax(" + s + ")", x.stepObservedMax(s), s + 1);
        }
        Check.due("completedCount(0)", x.completedCount(0), 1);
        Check.due("observedMax(0)", x.observedMax(0), 16);
        x.run(1);
        Check.due("after the tail", x.runningOn(0), -1);
    }

    /** Two chains grown in turns: steps 0, 2, 3 and steps 1, 4. */
    private static void predAndNextAreOfTheSameTransaction() {
        Check.says("pred(s) is the step of tx(s) added just before s; the head has none. next(s) is the step of tx(s) "
            + "added just after s; the tail has none.");
        HolisticRta x = new HolisticRta(2, 16);
        x.addTransaction(100, 100);
        x.addTransaction(100, 100);
        x.addStep(0, 0, 1, 10);
        x.addStep(1, 0, 2, 20);
        x.addStep(0, 1, 3, 10);
        x.addStep(0, 0, 4, 30);
        x.addStep(1, 1, 5, 20);
        // Processor 0: step 1 in [0,2), 0 in [2,3), 3 later. Processor 1: step 4 in [2,7), 2 in [7,10).
        int[] on0 = {1, 1, 0, -1, -1, -1, -1, -1, -1, -1, 3, 3, 3, 3, -1};
        int[] on1 = {-1, -1, 4, 4, 4, 4, 4, 2, 2, 2, -1, -1, -1, -1, -1};
        for (int t = 0; t < on0.length; t++) {
            x.run(1);
            Check.due("tick " + t + " processor 0", x.runningOn(0), on0[t]);
            Check.due("tick " + t + " processor 1", x.runningOn(1), on1[t]);
        }
        x.analyse();
        // Step 0: 1 + 2 + 4, the last step of its own chain being more urgent, with a jitter below 100.
        int[] bounds = {7, 6, 15, 19, 11};
        for (int s = 0; s < 5; s++) {
            Check.due("stepBound(" + s + ")", x.stepBound(s), bounds[s]);
        }
    }

    private static void completeNeedsATransaction() {
        Check.says("The configuration is COMPLETE when at least one transaction exists ..");
        HolisticRta x = new HolisticRta(1, 4);
        Check.due("no transaction, analyse()", x.analyse(), -16);
        Check.due("no transaction, run(1)", x.run(1), -16);
        x.addTransaction(10, 10);
        x.addStep(0, 0, 1, 1);
        Check.due("one transaction, analyse()", x.analyse(), 1);
        Check.due("one transaction, run(1)", x.run(1), 1);
    }

    private static void completeNeedsAStepInEveryTransaction() {
        Check.says(".. and every transaction has at least one step.");
        // The steps are given out in every order of the last one: each transaction is once the empty one.
        for (int count = 1; count <= 8; count++) {
            for (int empty = 0; empty < count; empty++) {
                HolisticRta x = new HolisticRta(1, 16);
                for (int tx = 0; tx < count; tx++) {
                    x.addTransaction(100, 100);
                }
                for (int tx = 0; tx < count; tx++) {
                    if (tx != empty) {
                        x.addStep(tx, 0, 1, 2 * tx + 1);
                        x.addStep(tx, 0, 1, 2 * tx + 2);
                    }
                }
                String what = "transaction " + empty + " of " + count + " is empty";
                Check.due(what + ", analyse()", x.analyse(), -16);
                Check.due(what + ", run(1)", x.run(1), -16);
                x.addStep(empty, 0, 1, 2 * empty + 1);
                Check.due(what + " no more, run(1)", x.run(1), 1);
                Check.due(what + " no more, analyse()", x.analyse(), 1);
            }
        }
    }
}
