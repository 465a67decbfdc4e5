/** Promise 12: completedCount. */
public final class Promise12CompletedCountTest {
    private static final int BUS = HolisticRta.BUS;

    public static void main(String[] args) {
        Ids.transactions("completedCount", 0);
        countsAtTheVeryEnd();
        tailsAlone();
        eachTransactionByItself();
        droppedOnesDoNotCount();
        mostThereCanBe();
        sinceTheLastReset();
        Ids.changesNothing("completedCount");
        Check.end("Promise12CompletedCountTest");
    }

    private static void countsAtTheVeryEnd() {
        Check.says("Otherwise: its completed count, the number of tail completions");
        HolisticRta x = new HolisticRta(1, 8);
        x.addTransaction(10, 10);
        x.addStep(0, 0, 3, 1);
        for (int t = 1; t <= 200; t++) {
            x.run(1);
            Check.due("at " + t, x.completedCount(0), (t + 7) / 10);
        }
    }

    private static void tailsAlone() {
        Check.says("the number of tail completions (not of other steps)");
        HolisticRta x = new HolisticRta(2, 8);
        x.addTransaction(20, 20);
        x.addStep(0, 0, 3, 1);
        x.addStep(0, BUS, 4, 1);
        x.addStep(0, 1, 5, 1);
        for (int t = 1; t <= 100; t++) {
            x.run(1);
            Check.due("at " + t, x.completedCount(0), (t + 8) / 20);
        }
    }

    private static void eachTransactionByItself() {
        Check.says("Otherwise: its completed count (each transaction by itself)");
        HolisticRta x = new HolisticRta(4, 16);
        for (int tx = 0; tx < 8; tx++) {
            x.addTransaction(10 * (tx + 1), 10);
            x.addStep(tx, tx % 4, 1, tx + 1);
        }
        x.run(1000);
        for (int tx = 0; tx < 8; tx++) {
            int every = 10 * (tx + 1);
            Check.due("completedCount(" + tx + ")", x.completedCount(tx), (1000 + every - 1) / every);
        }
    }

    private static void droppedOnesDoNotCount() {
        Check.says("the number of tail completions (dropped arrivals complete nothing)");
        HolisticRta x = new HolisticRta(1, 8);
        x.addTransaction(4, 4);
        x.addStep(0, 0, 9, 1);
        // Arrivals at 0, then 4 and 8 dropped, 12: one completion in 12 ticks.
        x.run(12 * 50);
        Check.due("completedCount(0)", x.completedCount(0), 50);
        Check.due("overrunCount(0)", x.overrunCount(0), 100);
    }

    private static void mostThereCanBe() {
        Check.says("Otherwise: its completed count (0 to 100000)");
        HolisticRta none = new HolisticRta(1, 4);
        none.addTransaction(1, 1);
        none.addTransaction(1, 1);
        none.addStep(0, 0, 1, 9);
        none.addStep(1, 0, 1, 1);
        for (int i = 0; i < 100; i++) {
            none.run(1000);
        }
        Check.due("one in every tick", none.completedCount(0), 100000);
        Check.due("one that never gets its turn", none.completedCount(1), 0);
    }

    private static void sinceTheLastReset() {
        Check.says("since the last SIMULATION RESET");
        for (String how : new String[] {"setArrivals(1, 0, 0)", "addStep(1, 0, 1, 50)", "addTransaction(9, 9)"}) {
            HolisticRta x = new HolisticRta(1, 8);
            x.addTransaction(3, 3);
            x.addTransaction(50, 50);
            x.addStep(0, 0, 5, 9);
            x.addStep(1, 0, 1, 1);
            x.run(50);
            Check.due("before, completedCount(0)", x.completedCount(0), 8);
            Check.due("before, completedCount(1)", x.completedCount(1), 1);
            int answer = new Real(x).call(how);
            Check.due("after " + how + ", completedCount(0)", x.completedCount(0), 0);
            Check.due("after " + how + ", completedCount(1)", x.completedCount(1), 0);
            if (how.startsWith("addT")) {
                x.addStep(answer, 0, 1, 5);
            }
            x.run(5);
            Check.due("after " + how + " and 5 ticks", x.completedCount(0), 1);
        }
    }
}
