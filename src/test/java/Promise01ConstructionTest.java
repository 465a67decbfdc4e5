/** Promise 1: construction and starting state. */
public final class Promise01ConstructionTest {
    public static void main(String[] args) {
        processorsAreClamped();
        stepCapacityIsClamped();
        freshObjectIsEmpty();
        objectsAreApart();
        Check.end("Promise01ConstructionTest");
    }

    private static void processorsAreClamped() {
        int[][] rows = {
            {Integer.MIN_VALUE, 1}, {-1, 1}, {0, 1}, {1, 1}, {2, 2}, {3, 3}, {4, 4}, {5, 4}, {8, 4}, {9, 4},
            {Integer.MAX_VALUE, 4},
        };
        for (int[] row : rows) {
            HolisticRta x = new HolisticRta(row[0], 16);
            x.addTransaction(100, 100);
            for (int r = -2; r <= 20; r++) {
                boolean valid = r == 8 || (r >= 0 && r < row[1]);
                String what = "new HolisticRta(" + row[0] + ", 16).runningOn(" + r + ")";
                Check.due(what, x.runningOn(r), valid ? -1 : -13);
            }
            int steps = 0;
            for (int r = -2; r <= 20; r++) {
                boolean valid = r == 8 || (r >= 0 && r < row[1]);
                String what = "new HolisticRta(" + row[0] + ", 16), addStep on " + r;
                Check.due(what, x.addStep(0, r, 1, 1), valid ? steps++ : -13);
            }
        }
    }

    private static void stepCapacityIsClamped() {
        int[][] rows = {
            {Integer.MIN_VALUE, 4}, {-1, 4}, {0, 4}, {3, 4}, {4, 4}, {5, 5}, {10, 10}, {15, 15}, {16, 16}, {17, 16},
            {Integer.MAX_VALUE, 16},
        };
        for (int[] row : rows) {
            HolisticRta x = new HolisticRta(1, row[0]);
            x.addTransaction(100, 100);
            x.addTransaction(100, 100);
            for (int s = 0; s < 20; s++) {
                // The capacity is for all transactions together, not for each.
                int due = s < row[1] ? s : -10;
                Check.due("capacity " + row[0] + ", step " + s, x.addStep(s % 2, 0, 1, s + 1), due);
            }
        }
    }

    private static void freshObjectIsEmpty() {
        HolisticRta x = new HolisticRta(3, 10);
        Check.due("fresh analysisState()", x.analysisState(), 0);
        Check.due("fresh now()", x.now(), 0);
        for (int r : new int[] {0, 1, 2, 8}) {
            Check.due("fresh runningOn(" + r + ")", x.runningOn(r), -1);
        }
        for (int id = -1; id <= 16; id++) {
            Check.due("fresh observedMax(" + id + ")", x.observedMax(id), -11);
            Check.due("fresh transactionBound(" + id + ")", x.transactionBound(id), -11);
            Check.due("fresh stepRemaining(" + id + ")", x.stepRemaining(id), -12);
            Check.due("fresh stepBound(" + id + ")", x.stepBound(id), -12);
            Check.due("fresh addStep(" + id + ", 0, 1, 1)", x.addStep(id, 0, 1, 1), -11);
            Check.due("fresh setArrivals(" + id + ", 0, 0)", x.setArrivals(id, 0, 0), -11);
        }
        Check.due("fresh analyse()", x.analyse(), -16);
        Check.due("fresh run(5)", x.run(5), -16);
        Check.due("fresh first transaction", x.addTransaction(5, 5), 0);
        Check.due("fresh first step", x.addStep(0, 2, 1, 1), 0);
    }

    private static void objectsAreApart() {
        HolisticRta one = Check.busy();
        String before = Check.view(one);
        HolisticRta other = new HolisticRta(1, 4);
        other.addTransaction(7, 7);
        other.addStep(0, 0, 2, 2);
        other.analyse();
        other.run(33);
        Check.same("an object after calls on another", Check.view(one), before);
    }
}
