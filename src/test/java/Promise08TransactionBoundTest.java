/** Promise 8: transactionBound. */
public final class Promise08TransactionBoundTest {
    private static final int[] NEVER = {Values.MIN, Values.MIN + 1, -65536, -256, -8, -2, -1, 8, 9, 16, 256, 65536, Values.MAX};

    public static void main(String[] args) {
        wrongIdsInEverySituation();
        idAfterTheLast();
        wrongIdBeforeNoBoundYet();
        noBoundYet();
        withoutAStep();
        boundOfTheTail();
        tailMovesWithTheChain();
        unbounded();
        Ids.changesNothing("transactionBound");
        Check.end("Promise08TransactionBoundTest");
    }

    private static void wrongIdsInEverySituation() {
        Check.says("tx is not an existing id: ERR_NO_TX.");
        for (Situation where : Situation.ALL) {
            HolisticRta x = where.make();
            for (int id : NEVER) {
                Check.due(where.name + ", transactionBound(" + id + ")", x.transactionBound(id), -11);
            }
        }
    }

    private static void idAfterTheLast() {
        Check.says("tx is not an existing id (the first that does not exist yet, the last that does)");
        HolisticRta x = new HolisticRta(1, 16);
        Check.due("fresh, transactionBound(0)", x.transactionBound(0), -11);
        for (int count = 1; count <= 8; count++) {
            x.addTransaction(200, 200);
            Check.due(count + " transactions, the last", x.transactionBound(count - 1), -2);
            Check.due(count + " transactions, the next", x.transactionBound(count), -11);
            x.addStep(count - 1, 0, 1, 100 - count);
            x.addStep(count - 1, 8, 1, 100 - count);
            x.analyse();
            Check.due(count + " transactions, analysed, the last", x.transactionBound(count - 1) >= 1);
            Check.due(count + " transactions, analysed, the next", x.transactionBound(count), -11);
        }
    }

    private static void wrongIdBeforeNoBoundYet() {
        Check.says("tx is not an existing id: ERR_NO_TX. Otherwise, if the state is NOT_ANALYSED: NO_BOUND_YET.");
        HolisticRta x = Situation.NOT_ANALYSED.make();
        for (int id = -3; id <= 20; id++) {
            // A step's id, up to 4, is none of a transaction.
            Check.due("transactionBound(" + id + ")", x.transactionBound(id), id == 0 || id == 1 ? -2 : -11);
        }
    }

    private static void noBoundYet() {
        Check.says("Otherwise, if the state is NOT_ANALYSED: NO_BOUND_YET.");
        for (Situation where : new Situation[] {Situation.ADMITTED, Situation.REFUSED}) {
            for (String change : new String[] {"addStep(0, 0, 1, 99)", "addTransaction(10, 10)"}) {
                HolisticRta x = where.make();
                new Real(x).call(change);
                Check.due(where.name + ", after " + change + ", transactionBound(0)", x.transactionBound(0), -2);
                Check.due(where.name + ", after " + change + ", transactionBound(1)", x.transactionBound(1), -2);
            }
        }
    }

    private static void withoutAStep() {
        Check.says("Otherwise, if the state is NOT_ANALYSED: NO_BOUND_YET. (a transaction without a step)");
        for (int count = 1; count <= 8; count++) {
            HolisticRta x = new HolisticRta(1, 4);
            for (int tx = 0; tx < count; tx++) {
                x.addTransaction(10, 10);
            }
            for (int tx = 0; tx < count; tx++) {
                Check.due(count + " without steps, transactionBound(" + tx + ")", x.transactionBound(tx), -2);
            }
            x.analyse();
            Check.due(count + " without steps, after a refused analyse", x.transactionBound(0), -2);
        }
        HolisticRta y = Situation.ADMITTED.make();
        y.addTransaction(10, 10);
        Check.due("beside others with steps", y.transactionBound(2), -2);
    }

    private static void boundOfTheTail() {
        Check.says("Otherwise: the bound of transaction tx, that is, the analysed bound of its tail ..");
        HolisticRta x = new HolisticRta(2, 8);
        x.addTransaction(50, 50);
        x.addTransaction(60, 60);
        x.addStep(1, 1, 7, 1);
        x.addStep(0, 0, 3, 1);
        x.addStep(1, 0, 2, 9);
        x.addStep(0, 1, 4, 9);
        x.analyse();
        // Step 1: 3 + 2. Step 3: 5 + 4. Step 0: 7 + 4. Step 2: 11 + 2.
        int[] bounds = {11, 5, 13, 9};
        for (int s = 0; s < 4; s++) {
            Check.due("stepBound(" + s + ")", x.stepBound(s), bounds[s]);
        }
        Check.due("transactionBound(0)", x.transactionBound(0), 9);
        Check.due("transactionBound(1)", x.transactionBound(1), 13);
        HolisticRta full = Situation.ALL_FULL.make();
        for (int tx = 0; tx < 8; tx++) {
            Check.due("full, transactionBound(" + tx + ")", full.transactionBound(tx), full.stepBound(8 + tx));
        }
    }

    private static void tailMovesWithTheChain() {
        Check.says("the analysed bound of its tail (of a chain of 1 to 16 steps)");
        HolisticRta x = new HolisticRta(1, 16);
        x.addTransaction(200, 200);
        for (int length = 1; length <= 16; length++) {
            x.addStep(0, 0, 1, 100 - length);
            x.analyse();
            // Step k waits for the k steps before it, and each of these adds to its jitter: 1 + 2 + .. + length.
            Check.due("length " + length, x.transactionBound(0), length * (length + 1) / 2);
            Check.due("length " + length + ", the tail's", x.stepBound(length - 1), length * (length + 1) / 2);
        }
    }

    private static void unbounded() {
        Check.says(".. or UNBOUNDED if it is INF.");
        HolisticRta x = new HolisticRta(2, 8);
        x.addTransaction(10, 8);
        x.addStep(0, 0, 3, 1);
        x.addStep(0, 1, 6, 1);
        x.addTransaction(20, 20);
        x.addStep(1, 1, 2, 9);
        x.analyse();
        Check.due("its head is bounded", x.stepBound(0), 3);
        Check.due("its tail is not", x.transactionBound(0), HolisticRta.UNBOUNDED);
        Check.due("a bounded transaction beside it", x.transactionBound(1), 2);
        HolisticRta y = new HolisticRta(2, 8);
        y.addTransaction(10, 2);
        y.addStep(0, 0, 3, 1);
        y.addStep(0, 1, 1, 1);
        y.analyse();
        Check.due("its head is not bounded", y.transactionBound(0), HolisticRta.UNBOUNDED);
    }
}
