/** Promises 14 and 15: stepObservedMax and stepRemaining. */
public final class Promise14And15StepsTest {
    public static void main(String[] args) {
        wrongIds();
        alongAChain();
        arrivalOfTheSameInstance();
        maximumIsTheGreatestNotTheLatest();
        waitingAndPreempted();
        resets();
        gettersChangeNothing();
        Check.end("Promise14And15StepsTest");
    }

    private static void seen(String what, HolisticRta x, int step, int max, int remaining) {
        Check.due(what + ", stepObservedMax(" + step + ")", x.stepObservedMax(step), max);
        Check.due(what + ", stepRemaining(" + step + ")", x.stepRemaining(step), remaining);
    }

    private static void wrongIds() {
        HolisticRta x = new HolisticRta(1, 16);
        seen("fresh", x, 0, -12, -12);
        x.addTransaction(100, 100);
        seen("a transaction", x, 0, -12, -12);
        x.addStep(0, 0, 1, 1);
        for (int id : new int[] {Integer.MIN_VALUE, -1, 1, 15, 16, Integer.MAX_VALUE}) {
            seen("one step", x, id, -12, -12);
        }
        for (int s = 1; s < 16; s++) {
            x.addStep(0, 0, 1, s + 1);
            seen("the newest", x, s, -1, 0);
        }
        seen("beyond sixteen", x, 16, -12, -12);
    }

    private static void alongAChain() {
        HolisticRta x = new HolisticRta(1, 8);
        x.addTransaction(20, 20);
        x.addStep(0, 0, 2, 1);
        x.addStep(0, 8, 3, 1);
        x.addStep(0, 0, 1, 2);
        int[][] remaining = {{1, 0, 0}, {0, 3, 0}, {0, 2, 0}, {0, 1, 0}, {0, 0, 1}, {0, 0, 0}, {0, 0, 0}};
        int[][] maxima = {{-1, -1, -1}, {2, -1, -1}, {2, -1, -1}, {2, -1, -1}, {2, 5, -1}, {2, 5, 6}, {2, 5, 6}};
        for (int t = 0; t < remaining.length; t++) {
            x.run(1);
            for (int s = 0; s < 3; s++) {
                seen("after tick " + t, x, s, maxima[t][s], remaining[t][s]);
            }
        }
    }

    /** Response times count from the arrival of the transaction, not from the end of the step before. */
    private static void arrivalOfTheSameInstance() {
        HolisticRta x = new HolisticRta(2, 8);
        x.addTransaction(4, 4);
        x.addStep(0, 0, 3, 1);
        x.addStep(0, 1, 6, 1);
        x.setArrivals(0, 5, 0);
        x.run(5 + 9);
        // Dropped arrivals in between do not move the arrival of the one in flight.
        seen("the head", x, 0, 3, 0);
        seen("the tail", x, 1, 9, 0);
        x.run(500);
        seen("the head later", x, 0, 3, 0);
        Check.due("the tail later", x.stepObservedMax(1), 9);
    }

    private static void maximumIsTheGreatestNotTheLatest() {
        HolisticRta x = new HolisticRta(1, 8);
        x.addTransaction(10, 10);
        x.addTransaction(200, 200);
        x.addStep(0, 0, 2, 1);
        x.addStep(1, 0, 5, 9);
        x.setArrivals(1, 20, 0);
        x.run(10);
        seen("a quick one", x, 0, 2, 0);
        x.run(17);
        seen("the slow one", x, 0, 7, 0);
        x.run(30);
        seen("quick ones again", x, 0, 7, 0);
    }

    private static void waitingAndPreempted() {
        HolisticRta x = new HolisticRta(1, 8);
        x.addTransaction(30, 30);
        x.addTransaction(30, 30);
        x.addStep(0, 0, 5, 1);
        x.addStep(1, 0, 2, 9);
        x.setArrivals(1, 2, 0);
        int[][] remaining = {{4, 0}, {3, 0}, {3, 1}, {3, 0}, {2, 0}, {1, 0}, {0, 0}};
        for (int t = 0; t < remaining.length; t++) {
            x.run(1);
            Check.due("tick " + t + ", the preempted", x.stepRemaining(0), remaining[t][0]);
            Check.due("tick " + t + ", the urgent", x.stepRemaining(1), remaining[t][1]);
        }
        HolisticRta y = new HolisticRta(1, 8);
        y.addTransaction(100, 100);
        y.addTransaction(100, 100);
        y.addStep(0, 8, 20, 1);
        y.addStep(1, 8, 7, 9);
        y.setArrivals(1, 1, 0);
        y.run(20);
        Check.due("a frame that waits keeps its whole cost", y.stepRemaining(1), 7);
        y.run(6);
        Check.due("and then works", y.stepRemaining(1), 1);
    }

    private static void resets() {
        for (int kind = 0; kind < 3; kind++) {
            HolisticRta x = Check.busy();
            int steps = 5;
            if (kind == 0) x.setArrivals(1, 4, 0);
            if (kind == 1) x.addStep(1, 1, 1, 1);
            if (kind == 1) steps = 6;
            if (kind == 2) x.addTransaction(9, 9);
            for (int s = 0; s < steps; s++) {
                seen("after the reset of kind " + kind, x, s, -1, 0);
            }
        }
    }

    private static void gettersChangeNothing() {
        HolisticRta x = Check.busy();
        HolisticRta twin = Check.busy();
        for (int id = -1; id < 17; id++) {
            x.stepObservedMax(id);
            x.stepRemaining(id);
        }
        x.run(123);
        twin.run(123);
        Check.same("after the getters", Check.view(x), Check.view(twin));
    }
}
