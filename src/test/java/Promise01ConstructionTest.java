/** Promise 1: construction and starting state. */
public final class Promise01ConstructionTest {
    private static final int BUS = HolisticRta.BUS;
    private static final int[] RESOURCES = {
        Values.MIN, -2, -1, 0, 1, 2, 3, 4, 5, 6, 7, 8, 9, 10, 16, 256, 264, Values.MAX,
    };

    public static void main(String[] args) {
        neverFails();
        processorsBelow();
        processorsWithin();
        processorsAbove();
        stepCapacityBelow();
        stepCapacityWithin();
        stepCapacityAbove();
        stepCapacityIsForAllTogether();
        argumentsAreApart();
        freshHasNoTransactions();
        freshHasNoSteps();
        freshIsNotAnalysed();
        freshIsReset();
        validResources();
        Check.end("Promise01ConstructionTest");
    }

    private static void processors(int given, int due) {
        HolisticRta x = new HolisticRta(given, 16);
        x.addTransaction(100, 100);
        String what = "new HolisticRta(" + given + ", 16), ";
        for (int p = 0; p < due; p++) {
            Check.due(what + "runningOn(" + p + ")", x.runningOn(p), -1);
            Check.due(what + "a step on processor " + p, x.addStep(0, p, 1, 1), p);
        }
        for (int p = due; p <= 7; p++) {
            Check.due(what + "runningOn(" + p + ")", x.runningOn(p), -13);
            Check.due(what + "a step on processor " + p, x.addStep(0, p, 1, 1), -13);
        }
        // The processors work, not only exist: the chain goes over all of them.
        Check.due(what + "run(" + due + ")", x.run(due), due);
        Check.due(what + "the last processor", x.runningOn(due - 1), due - 1);
        Check.due(what + "completedCount(0)", x.completedCount(0), 1);
    }

    private static void stepCapacity(int given, int due) {
        HolisticRta x = new HolisticRta(1, given);
        x.addTransaction(100, 100);
        String what = "new HolisticRta(1, " + given + "), ";
        for (int s = 0; s < due; s++) {
            Check.due(what + "step " + s, x.addStep(0, 0, 1, s + 1), s);
        }
        for (int s = due; s < due + 3; s++) {
            Check.due(what + "step " + s, x.addStep(0, 0, 1, s + 1), -10);
            Check.due(what + "stepRemaining(" + s + ")", x.stepRemaining(s), -12);
        }
        Check.due(what + "the last step", x.stepRemaining(due - 1), 0);
        Check.due(what + "run(" + due + ")", x.run(due), due);
        Check.due(what + "the last step works", x.runningOn(0), due - 1);
    }

    private static void neverFails() {
        Check.says("HolisticRta(int processors, int stepCapacity) never fails.");
        for (int processors : Values.ALL) {
            for (int stepCapacity : Values.ALL) {
                HolisticRta x = new HolisticRta(processors, stepCapacity);
                Model m = new Model(processors, stepCapacity);
                String what = "new HolisticRta(" + processors + ", " + stepCapacity + ")";
                Check.same(what, Check.view(x), Check.view(m));
                Check.due(what + ", addTransaction(5, 5)", x.addTransaction(5, 5), 0);
            }
        }
    }

    private static void processorsBelow() {
        Check.says("processors is clamped into 1..4. A value below 1 becomes 1");
        for (int given : new int[] {0, -1, -2, -4, -256, -255, -65532, Values.MIN + 1, Values.MIN}) {
            processors(given, 1);
        }
    }

    private static void processorsWithin() {
        Check.says("processors is clamped into 1..4.");
        for (int given = 1; given <= 4; given++) {
            processors(given, given);
        }
    }

    private static void processorsAbove() {
        Check.says("a value above 4 becomes 4");
        for (int given : new int[] {5, 6, 7, 8, 9, 10, 16, 255, 256, 257, 65537, Values.MAX - 1, Values.MAX}) {
            processors(given, 4);
        }
    }

    private static void stepCapacityBelow() {
        Check.says("stepCapacity is clamped into 4..16. A value below 4 becomes 4");
        for (int given : new int[] {3, 2, 1, 0, -1, -4, -16, -240, -65520, Values.MIN + 1, Values.MIN}) {
            stepCapacity(given, 4);
        }
    }

    private static void stepCapacityWithin() {
        Check.says("stepCapacity is clamped into 4..16.");
        for (int given = 4; given <= 16; given++) {
            stepCapacity(given, given);
        }
    }

    private static void stepCapacityAbove() {
        Check.says("a value above 16 becomes 16");
        for (int given : new int[] {17, 18, 20, 32, 100, 255, 256, 260, 65541, Values.MAX - 1, Values.MAX}) {
            stepCapacity(given, 16);
        }
    }

    private static void stepCapacityIsForAllTogether() {
        Check.says("stepCapacity is the greatest number of steps over all transactions together.");
        for (int capacity = 4; capacity <= 16; capacity++) {
            for (int transactions = 1; transactions <= 8; transactions++) {
                HolisticRta x = new HolisticRta(1, capacity);
                for (int tx = 0; tx < transactions; tx++) {
                    x.addTransaction(100, 100);
                }
                String what = "capacity " + capacity + ", " + transactions + " transactions, step ";
                for (int s = 0; s < capacity; s++) {
                    Check.due(what + s, x.addStep(s % transactions, s % 2 == 0 ? 0 : BUS, 1, s + 1), s);
                }
                for (int tx = 0; tx < transactions; tx++) {
                    Check.due(what + "beyond, of " + tx, x.addStep(tx, 0, 1, 50), -10);
                    Check.due(what + "beyond, of " + tx + ", bus", x.addStep(tx, BUS, 1, 50), -10);
                }
            }
        }
    }

    private static void argumentsAreApart() {
        Check.says("The two arguments are clamped as follows. (each by its own range)");
        for (int processors = 1; processors <= 4; processors++) {
            for (int capacity = 4; capacity <= 16; capacity++) {
                HolisticRta x = new HolisticRta(processors, capacity);
                x.addTransaction(100, 100);
                String what = "new HolisticRta(" + processors + ", " + capacity + "), ";
                Check.due(what + "the last processor", x.runningOn(processors - 1), -1);
                Check.due(what + "one more", x.runningOn(processors), -13);
                for (int s = 0; s <= capacity; s++) {
                    Check.due(what + "step " + s, x.addStep(0, 0, 1, s + 1), s < capacity ? s : -10);
                }
            }
        }
    }

    private static void freshHasNoTransactions() {
        Check.says("A fresh object has no transactions ..");
        HolisticRta x = new HolisticRta(3, 10);
        for (int id : Values.ALL) {
            Check.due("observedMax(" + id + ")", x.observedMax(id), -11);
            Check.due("completedCount(" + id + ")", x.completedCount(id), -11);
            Check.due("overrunCount(" + id + ")", x.overrunCount(id), -11);
            Check.due("transactionBound(" + id + ")", x.transactionBound(id), -11);
            Check.due("addStep(" + id + ", 0, 1, 1)", x.addStep(id, 0, 1, 1), -11);
            Check.due("setArrivals(" + id + ", 0, 0)", x.setArrivals(id, 0, 0), -11);
        }
        Check.due("analyse()", x.analyse(), -16);
        Check.due("run(5)", x.run(5), -16);
        Check.due("the first id is 0", x.addTransaction(5, 5), 0);
    }

    private static void freshHasNoSteps() {
        Check.says("A fresh object has .. no steps ..");
        HolisticRta x = new HolisticRta(3, 10);
        for (int id : Values.ALL) {
            Check.due("stepBound(" + id + ")", x.stepBound(id), -12);
            Check.due("stepObservedMax(" + id + ")", x.stepObservedMax(id), -12);
            Check.due("stepRemaining(" + id + ")", x.stepRemaining(id), -12);
        }
        x.addTransaction(5, 5);
        Check.due("analyse() without a step", x.analyse(), -16);
        Check.due("the first id is 0", x.addStep(0, 2, 1, 1), 0);
    }

    private static void freshIsNotAnalysed() {
        Check.says("A fresh object has .. analysis state NOT_ANALYSED ..");
        for (int processors : new int[] {Values.MIN, 1, 4, Values.MAX}) {
            Check.due("analysisState()", new HolisticRta(processors, processors).analysisState(), 0);
        }
    }

    private static void freshIsReset() {
        Check.says("So now() is 0 and every last runner is NONE.");
        for (int processors = 1; processors <= 4; processors++) {
            HolisticRta x = new HolisticRta(processors, 16);
            Check.due("now()", x.now(), 0);
            for (int p = 0; p < processors; p++) {
                Check.due(processors + " processors, runningOn(" + p + ")", x.runningOn(p), HolisticRta.NONE);
            }
            Check.due(processors + " processors, runningOn(BUS)", x.runningOn(BUS), HolisticRta.NONE);
        }
    }

    private static void validResources() {
        Check.says("The valid resources are 0..processors-1 (after clamping) and BUS.");
        int[][] rows = {{Values.MIN, 1}, {0, 1}, {1, 1}, {2, 2}, {3, 3}, {4, 4}, {5, 4}, {9, 4}, {Values.MAX, 4}};
        for (int[] row : rows) {
            HolisticRta x = new HolisticRta(row[0], 16);
            x.addTransaction(100, 100);
            int steps = 0;
            for (int r : RESOURCES) {
                boolean valid = r == BUS || (r >= 0 && r < row[1]);
                String what = "new HolisticRta(" + row[0] + ", 16), ";
                Check.due(what + "runningOn(" + r + ")", x.runningOn(r), valid ? -1 : -13);
                Check.due(what + "addStep on " + r, x.addStep(0, r, 1, 1), valid ? steps++ : -13);
            }
            Check.due("the bus works as well", x.run(steps), steps);
            Check.due("it is the last of the chain", x.runningOn(BUS), steps - 1);
        }
    }
}
