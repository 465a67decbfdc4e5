/** Promise 2: addTransaction. */
public final class Promise02AddTransactionTest {
    private static final int MIN = Values.MIN;
    private static final int MAX = Values.MAX;

    public static void main(String[] args) {
        noStepsAtFirst();
        eightAtMost();
        fullIsExaminedFirst();
        periodRange();
        deadlineRange();
        everyPeriodAndDeadline();
        periodIsExaminedBeforeDeadline();
        refusedChangesNothing();
        refusedByFullChangesNothing();
        newIdIsTheNumberBefore();
        stepsFullIsNoHindrance();
        periodIsKept();
        deadlineIsKept();
        noOffsetNorGap();
        stateBecomesNotAnalysed();
        resets();
        othersAreKept();
        Check.end("Promise02AddTransactionTest");
    }

    private static void noStepsAtFirst() {
        Check.says("addTransaction(period, deadline) adds a transaction with no steps.");
        HolisticRta x = new HolisticRta(1, 4);
        Check.due("addTransaction(10, 10)", x.addTransaction(10, 10), 0);
        Check.due("run(1)", x.run(1), -16);
        Check.due("analyse()", x.analyse(), -16);
        Check.due("stepRemaining(0)", x.stepRemaining(0), -12);
        HolisticRta busy = Check.busy();
        busy.addTransaction(10, 10);
        Check.due("run(1) with a third", busy.run(1), -16);
        Check.due("stepRemaining(5)", busy.stepRemaining(5), -12);
    }

    private static void eightAtMost() {
        Check.says("1. TX_CAPACITY transactions already exist: answers ERR_FULL.");
        HolisticRta x = new HolisticRta(1, 4);
        for (int id = 0; id < 8; id++) {
            Check.due("no. " + id + " does not exist yet", x.completedCount(id), -11);
            Check.due("no. " + id, x.addTransaction(10 + id, 10), id);
            Check.due("no. " + id + " exists", x.completedCount(id), 0);
        }
        for (int i = 0; i < 3; i++) {
            Check.due("the ninth", x.addTransaction(10, 10), -10);
            Check.due("completedCount(8)", x.completedCount(8), -11);
        }
        Check.due("the ninth, least values", x.addTransaction(1, 1), -10);
        Check.due("the ninth, greatest values", x.addTransaction(200, 200), -10);
    }

    private static void fullIsExaminedFirst() {
        Check.says("Conditions are examined in this order: 1. .. ERR_FULL 2. .. ERR_RANGE 3. .. ERR_RANGE");
        int[][] wrong = {{0, 1}, {201, 1}, {MIN, 1}, {MAX, 1}, {10, 0}, {10, 11}, {10, MIN}, {10, MAX}, {0, 0}, {MIN, MAX}};
        for (int count = 0; count <= 8; count++) {
            HolisticRta x = new HolisticRta(1, 4);
            for (int id = 0; id < count; id++) {
                x.addTransaction(100, 100);
            }
            for (int[] row : wrong) {
                String what = count + " exist, addTransaction(" + row[0] + ", " + row[1] + ")";
                Check.due(what, x.addTransaction(row[0], row[1]), count == 8 ? -10 : -14);
            }
        }
    }

    private static void taken(int period, int deadline, boolean fine) {
        HolisticRta x = new HolisticRta(1, 4);
        String what = "addTransaction(" + period + ", " + deadline + ")";
        Check.due(what, x.addTransaction(period, deadline), fine ? 0 : -14);
        Check.due(what + ", completedCount(0) after it", x.completedCount(0), fine ? 0 : -11);
    }

    private static void periodRange() {
        Check.says("2. period outside 1..MAX_PERIOD: answers ERR_RANGE.");
        for (int period : new int[] {MIN, MIN + 1, -65536, -256, -200, -1, 0, 201, 202, 255, 256, 257, 65537, MAX - 1, MAX}) {
            taken(period, 1, false);
            taken(period, period, false);
        }
        for (int period : new int[] {1, 2, 3, 100, 127, 128, 199, 200}) {
            taken(period, 1, true);
        }
    }

    private static void deadlineRange() {
        Check.says("3. deadline outside 1..period: answers ERR_RANGE.");
        for (int period : new int[] {1, 2, 50, 199, 200}) {
            for (int deadline : new int[] {MIN, MIN + 1, -65536, -256, -period, -1, 0}) {
                taken(period, deadline, false);
            }
            taken(period, 1, true);
            taken(period, period, true);
            for (int deadline : new int[] {period + 1, period + 2, 201, 256 + period, 65536 + period, MAX - 1, MAX}) {
                taken(period, deadline, false);
            }
        }
        taken(50, 2, true);
        taken(50, 49, true);
        taken(199, 200, false);
    }

    private static void everyPeriodAndDeadline() {
        Check.says("period outside 1..MAX_PERIOD .. deadline outside 1..period (all of them)");
        for (int period = -2; period <= 203; period++) {
            for (int deadline = -2; deadline <= 203; deadline++) {
                boolean fine = period >= 1 && period <= 200 && deadline >= 1 && deadline <= period;
                taken(period, deadline, fine);
            }
        }
    }

    /** Both answers are ERR_RANGE: seen is only that a deadline that would fit does not help a wrong period. */
    private static void periodIsExaminedBeforeDeadline() {
        Check.says("2. period outside 1..MAX_PERIOD .. 3. deadline outside 1..period");
        taken(201, 201, false);
        taken(201, 200, false);
        taken(MAX, 200, false);
        taken(MAX, MAX, false);
        taken(0, 0, false);
        taken(-1, -1, false);
        taken(MIN, MIN, false);
        taken(MIN, MAX, false);
        taken(MAX, MIN, false);
    }

    private static void refusedChangesNothing() {
        Check.says("A refused call changes nothing at all: no reset, and the analysis state is kept.");
        for (Situation where : Situation.ROOMY) {
            for (String call : new String[] {"addTransaction(0, 1)", "addTransaction(201, 1)", "addTransaction(10, 0)",
                "addTransaction(10, 11)", "addTransaction(" + MIN + ", " + MAX + ")"}) {
                where.unchangedBy(-14, call);
            }
        }
        Situation.FRESH.unchangedBy(-14, "addTransaction(0, 0)");
        Situation.STEPS_FULL.unchangedBy(-14, "addTransaction(0, 0)", "addTransaction(200, 201)");
    }

    private static void refusedByFullChangesNothing() {
        Check.says("A refused call changes nothing at all (ERR_FULL)");
        for (Situation where : new Situation[] {Situation.TRANSACTIONS_FULL, Situation.ALL_FULL, Situation.CALM_FULL}) {
            where.unchangedBy(-10, "addTransaction(100, 100)");
            where.unchangedBy(-10, "addTransaction(0, 0)");
            where.unchangedBy(-10, "addTransaction(1, 1)", "addTransaction(200, 200)");
        }
    }

    private static void newIdIsTheNumberBefore() {
        Check.says("Otherwise the call answers the new id, which equals the number of transactions that existed before "
            + "the call.");
        HolisticRta x = new HolisticRta(1, 16);
        int steps = 0;
        for (int id = 0; id < 8; id++) {
            Check.due("a refused one does not count", x.addTransaction(0, 0), -14);
            Check.due("addTransaction no. " + id, x.addTransaction(200 - id, 1 + id), id);
            // Nor do steps, runs and the like.
            Check.due("a step", x.addStep(id, 0, 1, steps + 1), steps++);
            Check.due("another", x.addStep(id, 8, 1, steps + 1), steps++);
            x.run(5);
            x.analyse();
        }
        HolisticRta busy = Check.busy();
        Check.due("after two", busy.addTransaction(20, 20), 2);
        Check.due("after three", busy.addTransaction(20, 20), 3);
    }

    private static void stepsFullIsNoHindrance() {
        Check.says("TX_CAPACITY transactions already exist (the number of steps is of no account)");
        HolisticRta x = Situation.STEPS_FULL.make();
        Check.due("addStep is refused", x.addStep(0, 0, 1, 99), -10);
        for (int id = 2; id < 8; id++) {
            Check.due("addTransaction no. " + id, x.addTransaction(10, 10), id);
        }
        Check.due("the ninth", x.addTransaction(10, 10), -10);
    }

    private static void periodIsKept() {
        Check.says("The new transaction has T = period ..");
        for (int period : new int[] {1, 2, 10, 199, 200}) {
            HolisticRta x = new HolisticRta(1, 4);
            x.addTransaction(period, 1);
            x.addStep(0, 0, 1, 1);
            x.run(period);
            Check.due("period " + period + ", one arrival", x.completedCount(0), 1);
            x.run(1);
            Check.due("period " + period + ", two arrivals", x.completedCount(0), 2);
        }
        // In the analysis: a step of cost 1 below one of cost 1 sees ceil(w/T) releases.
        for (int period : new int[] {2, 3, 200}) {
            HolisticRta x = new HolisticRta(1, 4);
            x.addTransaction(period, period);
            x.addTransaction(200, 200);
            x.addStep(0, 0, 1, 2);
            x.addStep(1, 0, 2, 1);
            x.analyse();
            Check.due("period " + period + ", the bound below", x.stepBound(1), period == 2 ? 4 : 3);
        }
    }

    private static void deadlineIsKept() {
        Check.says(".. D = deadline ..");
        for (int deadline = 1; deadline <= 20; deadline++) {
            HolisticRta x = new HolisticRta(1, 4);
            x.addTransaction(200, deadline);
            x.addStep(0, 0, deadline, 1);
            Check.due("cost and deadline " + deadline, x.analyse(), 1);
            HolisticRta y = new HolisticRta(1, 4);
            y.addTransaction(200, deadline);
            y.addStep(0, 0, deadline == 20 ? 20 : deadline + 1, 1);
            Check.due("cost one above deadline " + deadline, y.analyse(), deadline == 20 ? 1 : 2);
        }
        // The simulation does not look at it.
        HolisticRta late = new HolisticRta(1, 4);
        late.addTransaction(10, 1);
        late.addStep(0, 0, 9, 1);
        late.run(10);
        Check.due("a late one completes", late.completedCount(0), 1);
        Check.due("it is no overrun", late.overrunCount(0), 0);
    }

    private static void noOffsetNorGap() {
        Check.says(".. O = 0, G = 0 and no steps.");
        HolisticRta x = new HolisticRta(1, 8);
        x.addTransaction(10, 10);
        x.setArrivals(0, 7, 7);
        x.addTransaction(10, 10);
        x.addStep(1, 0, 1, 1);
        x.addStep(0, 0, 1, 2);
        x.run(1);
        Check.due("it arrives at 0", x.completedCount(1), 1);
        x.run(9);
        Check.due("not again before 10", x.completedCount(1), 1);
        x.run(1);
        Check.due("again at 10, without a gap", x.completedCount(1), 2);
    }

    private static void stateBecomesNotAnalysed() {
        Check.says("The call is a configuration change: the analysis state becomes NOT_ANALYSED ..");
        for (Situation where : Situation.ROOMY) {
            HolisticRta x = where.make();
            Check.due(where.name + ", addTransaction(20, 20)", x.addTransaction(20, 20) > 0);
            Check.due(where.name + ", analysisState()", x.analysisState(), 0);
            for (int s = 0; s < 16 && x.stepRemaining(s) != -12; s++) {
                Check.due(where.name + ", stepBound(" + s + ")", x.stepBound(s), -2);
            }
            for (int tx = 0; tx < 8 && x.completedCount(tx) != -11; tx++) {
                Check.due(where.name + ", transactionBound(" + tx + ")", x.transactionBound(tx), -2);
            }
        }
    }

    private static void resets() {
        Check.says(".. then a SIMULATION RESET is done.");
        HolisticRta x = Check.busy();
        x.addTransaction(20, 20);
        Check.reset("refused, under way", x, 3, 5);
        HolisticRta y = Situation.AT_THE_HORIZON.make();
        y.addTransaction(20, 20);
        Check.reset("at the horizon", y, 4, 4);
        HolisticRta z = Situation.STEPS_FULL.make();
        z.addTransaction(20, 20);
        Check.reset("no room for a step", z, 3, 4);
    }

    private static void othersAreKept() {
        Check.says("Existing transactions and steps are otherwise unchanged, including their offsets and extra gaps.");
        HolisticRta x = Check.busy();
        x.addTransaction(200, 200);
        x.addStep(2, 1, 1, 1);
        x.setArrivals(2, 200, 0);
        Check.due("the analysis is as before", x.analyse(), 2);
        HolisticRta twin = Check.busy();
        for (int s = 0; s < 5; s++) {
            Check.due("stepBound(" + s + ")", x.stepBound(s), twin.stepBound(s));
        }
        twin.setArrivals(1, 1, 0);
        for (int t = 0; t < 200; t++) {
            x.run(1);
            twin.run(1);
            for (int tx = 0; tx < 2; tx++) {
                Check.due("at " + t + ", observedMax(" + tx + ")", x.observedMax(tx), twin.observedMax(tx));
                Check.due("at " + t + ", completedCount(" + tx + ")", x.completedCount(tx), twin.completedCount(tx));
                Check.due("at " + t + ", overrunCount(" + tx + ")", x.overrunCount(tx), twin.overrunCount(tx));
            }
            for (int s = 0; s < 5; s++) {
                Check.due("at " + t + ", stepRemaining(" + s + ")", x.stepRemaining(s), twin.stepRemaining(s));
            }
        }
        HolisticRta y = new HolisticRta(2, 8);
        y.addTransaction(10, 10);
        y.addStep(0, 0, 1, 1);
        y.setArrivals(0, 4, 3);
        for (int id = 1; id < 8; id++) {
            y.addTransaction(200, 200);
            y.addStep(id, 1, 1, id);
        }
        for (int t = 0; t < 60; t++) {
            y.run(1);
            Check.due("offset 4 and gap 3 are kept, tick " + t, y.runningOn(0), t >= 4 && (t - 4) % 13 == 0 ? 0 : -1);
        }
    }
}
