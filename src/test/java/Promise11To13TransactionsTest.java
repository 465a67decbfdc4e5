/** Promises 11, 12 and 13: observedMax, completedCount and overrunCount. */
public final class Promise11To13TransactionsTest {
    public static void main(String[] args) {
        wrongIds();
        countsAndMaxima();
        maximumIsTheGreatestNotTheLatest();
        onlyTheTailCompletes();
        overruns();
        overrunsWithGapAndOffset();
        resets();
        gettersChangeNothing();
        Check.end("Promise11To13TransactionsTest");
    }

    private static void seen(String what, HolisticRta x, int tx, int max, int completed, int overruns) {
        Check.due(what + ", observedMax(" + tx + ")", x.observedMax(tx), max);
        Check.due(what + ", completedCount(" + tx + ")", x.completedCount(tx), completed);
        Check.due(what + ", overrunCount(" + tx + ")", x.overrunCount(tx), overruns);
    }

    private static void wrongIds() {
        HolisticRta x = new HolisticRta(1, 8);
        seen("fresh", x, 0, -11, -11, -11);
        x.addTransaction(10, 10);
        seen("an empty transaction", x, 0, -1, 0, 0);
        for (int id : new int[] {Integer.MIN_VALUE, -1, 1, 7, 8, Integer.MAX_VALUE}) {
            seen("one transaction", x, id, -11, -11, -11);
        }
        for (int tx = 1; tx < 8; tx++) {
            x.addTransaction(10, 10);
            seen("the newest", x, tx, -1, 0, 0);
        }
        seen("beyond eight", x, 8, -11, -11, -11);
    }

    private static void countsAndMaxima() {
        HolisticRta x = new HolisticRta(1, 8);
        x.addTransaction(10, 10);
        x.addStep(0, 0, 3, 1);
        x.run(2);
        seen("before its end", x, 0, -1, 0, 0);
        x.run(1);
        seen("at its end", x, 0, 3, 1, 0);
        x.run(9);
        seen("before the second end", x, 0, 3, 1, 0);
        x.run(1);
        seen("at the second end", x, 0, 3, 2, 0);
        x.run(987);
        seen("at 1000", x, 0, 3, 100, 0);
    }

    /** The first instance of transaction 0 waits for transaction 1, the next ones do not. */
    private static void maximumIsTheGreatestNotTheLatest() {
        HolisticRta x = new HolisticRta(1, 8);
        x.addTransaction(10, 10);
        x.addTransaction(200, 200);
        x.addStep(0, 0, 2, 1);
        x.addStep(1, 0, 5, 9);
        x.run(7);
        seen("the slow one", x, 0, 7, 1, 0);
        x.run(90);
        seen("after quick ones", x, 0, 7, 10, 0);
        seen("the urgent", x, 1, 5, 1, 0);
        x.setArrivals(1, 20, 0);
        x.run(15);
        seen("quick ones first", x, 0, 2, 2, 0);
        x.run(12);
        seen("the slow one third", x, 0, 7, 3, 0);
    }

    private static void onlyTheTailCompletes() {
        HolisticRta x = new HolisticRta(2, 8);
        x.addTransaction(40, 40);
        x.addStep(0, 0, 3, 1);
        x.addStep(0, 8, 4, 1);
        x.addStep(0, 1, 5, 1);
        x.setArrivals(0, 6, 0);
        x.run(6 + 3);
        seen("after the head", x, 0, -1, 0, 0);
        x.run(4);
        seen("after the middle", x, 0, -1, 0, 0);
        x.run(4);
        seen("before the tail's end", x, 0, -1, 0, 0);
        x.run(1);
        seen("after the tail", x, 0, 12, 1, 0);
    }

    private static void overruns() {
        HolisticRta x = new HolisticRta(2, 8);
        x.addTransaction(4, 4);
        x.addStep(0, 0, 3, 1);
        x.addStep(0, 1, 6, 1);
        // In flight for 9 ticks: arrivals at 4 and 8 are dropped, the one at 12 is not.
        x.run(4);
        seen("before the arrival at 4", x, 0, -1, 0, 0);
        x.run(1);
        seen("at 4", x, 0, -1, 0, 1);
        x.run(4);
        seen("at its end", x, 0, 9, 1, 2);
        x.run(3);
        seen("at rest", x, 0, 9, 1, 2);
        x.run(1);
        seen("the arrival at 12", x, 0, 9, 1, 2);
        Check.due("it is at work", x.runningOn(0), 0);
        x.run(1000);
        x.run(200 - 13);
        seen("after a hundred", x, 0, 9, 100, 200);
    }

    private static void overrunsWithGapAndOffset() {
        HolisticRta x = new HolisticRta(1, 8);
        x.addTransaction(3, 3);
        x.addStep(0, 0, 7, 1);
        x.setArrivals(0, 2, 2);
        // Arrivals at 2, 7 (dropped), 12, 17 (dropped), ..
        x.run(8);
        seen("the first dropped", x, 0, -1, 0, 1);
        x.run(1);
        seen("the first done", x, 0, 7, 1, 1);
        x.run(93);
        seen("after ten", x, 0, 7, 10, 10);
    }

    private static void resets() {
        for (int kind = 0; kind < 3; kind++) {
            HolisticRta x = new HolisticRta(1, 8);
            x.addTransaction(3, 3);
            x.addTransaction(50, 50);
            x.addStep(0, 0, 5, 9);
            x.addStep(1, 0, 1, 1);
            x.run(50);
            seen("before the reset", x, 0, 5, 8, 8);
            if (kind == 0) x.setArrivals(1, 0, 0);
            if (kind == 1) x.addStep(1, 0, 1, 2);
            if (kind == 2) x.addTransaction(9, 9);
            seen("after the reset of kind " + kind, x, 0, -1, 0, 0);
            seen("after the reset of kind " + kind, x, 1, -1, 0, 0);
            if (kind == 2) x.addStep(2, 0, 1, 5);
            // The instance that was in flight before the reset is not in flight any more.
            x.run(3);
            seen("three ticks on", x, 0, -1, 0, 0);
            x.run(2);
            seen("five ticks on", x, 0, 5, 1, 1);
        }
    }

    private static void gettersChangeNothing() {
        HolisticRta x = Check.busy();
        HolisticRta twin = Check.busy();
        for (int id = -1; id < 9; id++) {
            x.observedMax(id);
            x.completedCount(id);
            x.overrunCount(id);
        }
        x.run(123);
        twin.run(123);
        Check.same("after the getters", Check.view(x), Check.view(twin));
    }
}
