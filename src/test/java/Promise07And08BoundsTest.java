/** Promises 7 and 8: stepBound and transactionBound. */
public final class Promise07And08BoundsTest {
    private static final int[] WRONG = {Integer.MIN_VALUE, -2, -1, 8, 16, 17, Integer.MAX_VALUE};

    public static void main(String[] args) {
        wrongIdsInEveryState();
        beforeAndAfter();
        tailNotHead();
        valueIsKeptUntilTheConfigurationChanges();
        Check.end("Promise07And08BoundsTest");
    }

    private static void wrongIds(String when, HolisticRta x, int transactions, int steps) {
        for (int id : WRONG) {
            Check.due(when + ", stepBound(" + id + ")", x.stepBound(id), -12);
            Check.due(when + ", transactionBound(" + id + ")", x.transactionBound(id), -11);
        }
        Check.due(when + ", the step after the last", x.stepBound(steps), -12);
        Check.due(when + ", the transaction after the last", x.transactionBound(transactions), -11);
    }

    private static void wrongIdsInEveryState() {
        HolisticRta x = new HolisticRta(1, 8);
        wrongIds("fresh", x, 0, 0);
        x.addTransaction(10, 10);
        wrongIds("a transaction", x, 1, 0);
        x.addStep(0, 0, 3, 1);
        wrongIds("a step", x, 1, 1);
        x.analyse();
        wrongIds("admitted", x, 1, 1);
        x.addStep(0, 0, 20, 2);
        x.analyse();
        wrongIds("refused", x, 1, 2);
    }

    private static void beforeAndAfter() {
        HolisticRta x = new HolisticRta(2, 8);
        x.addTransaction(10, 8);
        Check.due("a transaction without a step", x.transactionBound(0), -2);
        x.addStep(0, 0, 3, 1);
        Check.due("not analysed, step", x.stepBound(0), -2);
        Check.due("not analysed, transaction", x.transactionBound(0), -2);
        x.analyse();
        Check.due("admitted, step", x.stepBound(0), 3);
        Check.due("admitted, transaction", x.transactionBound(0), 3);
        x.addStep(0, 1, 6, 1);
        Check.due("changed, step 0", x.stepBound(0), -2);
        Check.due("changed, step 1", x.stepBound(1), -2);
        Check.due("changed, transaction", x.transactionBound(0), -2);
        x.analyse();
        Check.due("refused, a bounded step", x.stepBound(0), 3);
        Check.due("refused, an unbounded step", x.stepBound(1), -1);
        Check.due("refused, transaction", x.transactionBound(0), -1);
        x.addTransaction(20, 20);
        x.analyse();
        Check.due("incomplete, step 0", x.stepBound(0), -2);
        Check.due("incomplete, transaction 0", x.transactionBound(0), -2);
        Check.due("incomplete, transaction 1", x.transactionBound(1), -2);
        x.addStep(1, 1, 2, 9);
        x.analyse();
        Check.due("a bounded transaction beside an unbounded one", x.transactionBound(1), 2);
        Check.due("the unbounded one", x.transactionBound(0), -1);
    }

    private static void tailNotHead() {
        HolisticRta x = new HolisticRta(2, 8);
        x.addTransaction(50, 50);
        x.addTransaction(60, 60);
        x.addStep(1, 1, 7, 1);
        x.addStep(0, 0, 3, 1);
        x.addStep(1, 0, 2, 9);
        x.addStep(0, 1, 4, 9);
        x.analyse();
        // Step 1: 3 + 2. Step 3: 5 + 4. Step 0: 7 + 4. Step 2: 11 + 2.
        Check.due("stepBound(0)", x.stepBound(0), 11);
        Check.due("stepBound(1)", x.stepBound(1), 5);
        Check.due("stepBound(2)", x.stepBound(2), 13);
        Check.due("stepBound(3)", x.stepBound(3), 9);
        Check.due("transactionBound(0)", x.transactionBound(0), 9);
        Check.due("transactionBound(1)", x.transactionBound(1), 13);
    }

    private static void valueIsKeptUntilTheConfigurationChanges() {
        HolisticRta x = Check.busy();
        HolisticRta twin = Check.busy();
        String analysis = Check.analysisView(x);
        String simulation = Check.simulationView(x);
        for (int id = -1; id < 17; id++) {
            x.stepBound(id);
            x.transactionBound(id);
        }
        Check.same("the simulation after the getters", Check.simulationView(x), simulation);
        x.run(50);
        x.setArrivals(0, 9, 9);
        x.addStep(0, 0, 0, 0);
        Check.same("the bounds after run, setArrivals and a refused addStep", Check.analysisView(x), analysis);
        twin.setArrivals(0, 9, 9);
        x.run(100);
        twin.run(100);
        Check.same("and on from there", Check.view(x), Check.view(twin));
    }
}
