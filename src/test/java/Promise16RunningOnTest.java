/** Promise 16: runningOn. */
public final class Promise16RunningOnTest {
    public static void main(String[] args) {
        wrongResources();
        mostRecentTick();
        resets();
        getterChangesNothing();
        Check.end("Promise16RunningOnTest");
    }

    private static void wrongResources() {
        for (int processors = 1; processors <= 4; processors++) {
            HolisticRta x = new HolisticRta(processors, 8);
            for (int r : new int[] {Integer.MIN_VALUE, -1, 4, 5, 6, 7, 9, 10, Integer.MAX_VALUE, processors}) {
                Check.due(processors + " processors, runningOn(" + r + ")", x.runningOn(r), -13);
            }
            Check.due("the last processor", x.runningOn(processors - 1), -1);
            Check.due("the bus", x.runningOn(8), -1);
        }
    }

    private static void mostRecentTick() {
        HolisticRta x = new HolisticRta(4, 8);
        x.addTransaction(10, 10);
        x.addTransaction(10, 10);
        x.addStep(0, 3, 2, 1);
        x.addStep(1, 1, 1, 1);
        x.addStep(1, 8, 2, 1);
        int[][] rows = {{-1, 1, -1, 0, -1}, {-1, -1, -1, 0, 2}, {-1, -1, -1, -1, 2}, {-1, -1, -1, -1, -1}};
        for (int t = 0; t < rows.length; t++) {
            x.run(1);
            x.run(0);
            for (int r = 0; r < 4; r++) {
                Check.due("tick " + t + ", runningOn(" + r + ")", x.runningOn(r), rows[t][r]);
            }
            Check.due("tick " + t + ", runningOn(8)", x.runningOn(8), rows[t][4]);
        }
        x.run(7);
        Check.due("one that ended before the last tick of a run", x.runningOn(1), 1);
        Check.due("the one that goes on", x.runningOn(3), 0);
    }

    private static void resets() {
        for (int kind = 0; kind < 3; kind++) {
            HolisticRta x = new HolisticRta(2, 8);
            x.addTransaction(30, 30);
            x.addTransaction(30, 30);
            x.addTransaction(30, 30);
            x.addStep(0, 0, 9, 1);
            x.addStep(1, 1, 9, 1);
            x.addStep(2, 8, 9, 1);
            x.run(3);
            for (int tx = 0; tx < 3; tx++) {
                Check.due("before the reset", x.runningOn(tx == 2 ? 8 : tx), tx);
            }
            if (kind == 0) x.setArrivals(0, 0, 0);
            if (kind == 1) x.addStep(0, 0, 1, 2);
            if (kind == 2) x.addTransaction(9, 9);
            for (int tx = 0; tx < 3; tx++) {
                Check.due("after the reset of kind " + kind, x.runningOn(tx == 2 ? 8 : tx), -1);
            }
        }
    }

    private static void getterChangesNothing() {
        HolisticRta x = Check.busy();
        HolisticRta twin = Check.busy();
        for (int r = -1; r < 10; r++) {
            x.runningOn(r);
        }
        x.run(123);
        twin.run(123);
        Check.same("after the getter", Check.view(x), Check.view(twin));
    }
}
