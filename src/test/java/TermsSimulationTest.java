/** 'Terms used below', Simulation state and Configuration change: what a SIMULATION RESET sets and what it keeps. */
public final class TermsSimulationTest {
    private static final int BUS = HolisticRta.BUS;
    /** Three calls that reset. None changes what transactions 0 and 1 of the tests here do from then on. */
    private static final String[] RESETS = {"setArrivals(2, 200, 200)", "addTransaction(200, 200)", "addStep(2, 3, 1, 77)"};

    public static void main(String[] args) {
        noOffsetAtFirst();
        noGapAtFirst();
        timeIsZero();
        arrivalsBeginAnew();
        nothingIsInFlight();
        countsAreZero();
        transactionMaximaAreNone();
        workIsGone();
        stepMaximaAreNone();
        frameIsGone();
        lastRunnersAreNone();
        offsetAndGapAreKept();
        resetOfAResetOne();
        resetAtTheHorizon();
        configurationChangeForgetsTheAnalysis();
        configurationChangeResets();
        refusedOnesAreNoChange();
        otherCallsAreNoChange();
        Check.end("TermsSimulationTest");
    }

    /**
     * Transaction 0: step 0 (processor 0), 1 (bus). Transaction 1: step 2 (processor 1), 3 (bus).
     * Transaction 2: step 4 (processor 3), whose first arrival is at 200.
     */
    private static HolisticRta system() {
        HolisticRta x = new HolisticRta(4, 16);
        x.addTransaction(7, 7);
        x.addTransaction(30, 30);
        x.addTransaction(200, 200);
        x.addStep(0, 0, 3, 5);
        x.addStep(0, BUS, 2, 50);
        x.addStep(1, 1, 2, 5);
        x.addStep(1, BUS, 20, 5);
        x.addStep(2, 3, 1, 5);
        x.setArrivals(0, 4, 1);
        x.setArrivals(1, 2, 3);
        x.setArrivals(2, 200, 0);
        return x;
    }

    /** After a reset by an addTransaction the new one needs a step before the simulation can go on. */
    private static void reset(HolisticRta x, String how) {
        int answer = new Real(x).call(how);
        Check.due(how + " is taken", answer >= 0);
        if (how.startsWith("addTransaction")) {
            Check.due("the new transaction has room", x.addStep(answer, 3, 1, 1) >= 0);
            x.setArrivals(answer, 200, 0);
        }
    }

    private static void noOffsetAtFirst() {
        Check.says("offset O(x) and extra gap G(x) (both 0 when x is added): O(x)");
        HolisticRta x = new HolisticRta(1, 16);
        for (int tx = 0; tx < 8; tx++) {
            x.addTransaction(100, 100);
            x.addStep(tx, 0, 1, tx + 1);
        }
        x.run(8);
        for (int tx = 0; tx < 8; tx++) {
            Check.due("observedMax(" + tx + ") counts from 0", x.observedMax(tx), 8 - tx);
        }
    }

    private static void noGapAtFirst() {
        Check.says("offset O(x) and extra gap G(x) (both 0 when x is added): G(x)");
        HolisticRta x = new HolisticRta(1, 16);
        for (int tx = 0; tx < 8; tx++) {
            x.addTransaction(50 + tx, 50);
            x.addStep(tx, 0, 1, tx + 1);
        }
        for (int tx = 0; tx < 8; tx++) {
            x.run(50 + tx - x.now());
            Check.due("before " + (50 + tx), x.completedCount(tx), 1);
            x.run(1);
            Check.due("at " + (50 + tx), x.completedCount(tx), 2);
        }
    }

    private static void timeIsZero() {
        Check.says("SIMULATION RESET sets: now = 0");
        for (String how : RESETS) {
            HolisticRta x = system();
            x.run(33);
            new Real(x).call(how);
            Check.due(how + ", now()", x.now(), 0);
        }
    }

    private static void arrivalsBeginAnew() {
        Check.says("for every x: N(x) = O(x)");
        for (String how : RESETS) {
            // Stopped before, between and after the first arrivals.
            for (int ticks : new int[] {0, 1, 3, 5, 12, 33, 150}) {
                HolisticRta x = system();
                x.run(ticks);
                reset(x, how);
                x.run(2);
                Check.due(how + " at " + ticks + ", nothing before 2", x.runningOn(1), -1);
                x.run(1);
                Check.due(how + " at " + ticks + ", transaction 1 at 2", x.runningOn(1), 2);
                x.run(1);
                Check.due(how + " at " + ticks + ", transaction 0 not at 3", x.runningOn(0), -1);
                x.run(1);
                Check.due(how + " at " + ticks + ", transaction 0 at 4", x.runningOn(0), 0);
            }
        }
    }

    private static void nothingIsInFlight() {
        Check.says("for every x: .. not in flight");
        for (String how : RESETS) {
            HolisticRta x = system();
            x.run(14);
            Check.due("both are in flight, 0", x.stepRemaining(0) + x.stepRemaining(1) > 0);
            Check.due("both are in flight, 1", x.stepRemaining(2) + x.stepRemaining(3) > 0);
            reset(x, how);
            x.run(6);
            for (int tx = 0; tx < 2; tx++) {
                Check.due(how + ", the first arrival of " + tx + " is not dropped", x.overrunCount(tx), 0);
            }
            Check.due(how + ", the head of 0", x.stepRemaining(0), 1);
            Check.due(how + ", the frame of 1", x.stepRemaining(3), 18);
        }
    }

    private static void countsAreZero() {
        Check.says("for every x: .. both counts 0");
        for (String how : RESETS) {
            HolisticRta x = system();
            x.run(100);
            for (int tx = 0; tx < 2; tx++) {
                Check.due("before, completedCount(" + tx + ")", x.completedCount(tx) > 0);
            }
            Check.due("before, overrunCount(0)", x.overrunCount(0) > 0);
            new Real(x).call(how);
            for (int tx = 0; tx < 3; tx++) {
                Check.due(how + ", completedCount(" + tx + ")", x.completedCount(tx), 0);
                Check.due(how + ", overrunCount(" + tx + ")", x.overrunCount(tx), 0);
            }
        }
    }

    private static void transactionMaximaAreNone() {
        Check.says("for every x: .. observed maximum NONE");
        for (String how : RESETS) {
            HolisticRta x = system();
            x.run(300);
            for (int tx = 0; tx < 3; tx++) {
                Check.due("before, observedMax(" + tx + ")", x.observedMax(tx) > 0);
            }
            new Real(x).call(how);
            for (int tx = 0; tx < 3; tx++) {
                Check.due(how + ", observedMax(" + tx + ")", x.observedMax(tx), HolisticRta.NONE);
            }
        }
    }

    private static void workIsGone() {
        Check.says("for every s: rem(s) = 0");
        for (String how : RESETS) {
            HolisticRta x = system();
            x.run(14);
            new Real(x).call(how);
            for (int s = 0; s < 5; s++) {
                Check.due(how + ", stepRemaining(" + s + ")", x.stepRemaining(s), 0);
            }
            HolisticRta y = system();
            y.run(6);
            Check.due("a processor's step has work left", y.stepRemaining(0), 1);
            reset(y, how);
            y.run(1);
            for (int r : new int[] {0, 1, 2, 3, BUS}) {
                Check.due(how + ", nothing goes on on " + r, y.runningOn(r), -1);
            }
        }
    }

    private static void stepMaximaAreNone() {
        Check.says("for every s: .. observed maximum NONE");
        for (String how : RESETS) {
            HolisticRta x = system();
            x.run(300);
            for (int s = 0; s < 5; s++) {
                Check.due("before, stepObservedMax(" + s + ")", x.stepObservedMax(s) > 0);
            }
            new Real(x).call(how);
            for (int s = 0; s < 5; s++) {
                Check.due(how + ", stepObservedMax(" + s + ")", x.stepObservedMax(s), HolisticRta.NONE);
            }
        }
    }

    private static void frameIsGone() {
        Check.says("frame none");
        for (String how : RESETS) {
            HolisticRta x = system();
            x.run(8);
            Check.due("the long frame is under way", x.runningOn(BUS), 3);
            reset(x, how);
            x.setArrivals(0, 0, 0);
            x.setArrivals(1, 1, 0);
            // Both are pending on the bus at 3: a frame that had outlived the reset would go first.
            x.run(3);
            Check.due(how + ", the bus is idle till then", x.runningOn(BUS), -1);
            x.run(1);
            Check.due(how + ", the more urgent goes first", x.runningOn(BUS), 1);
        }
    }

    private static void lastRunnersAreNone() {
        Check.says("every last runner NONE");
        for (String how : RESETS) {
            HolisticRta x = new HolisticRta(4, 16);
            for (int tx = 0; tx < 5; tx++) {
                x.addTransaction(30, 30);
                x.addStep(tx, tx == 4 ? BUS : tx, 9, 1);
            }
            x.run(3);
            for (int tx = 0; tx < 5; tx++) {
                Check.due("before", x.runningOn(tx == 4 ? BUS : tx), tx);
            }
            new Real(x).call(how);
            for (int tx = 0; tx < 5; tx++) {
                Check.due(how + ", resource of " + tx, x.runningOn(tx == 4 ? BUS : tx), HolisticRta.NONE);
            }
        }
    }

    private static void offsetAndGapAreKept() {
        Check.says("O(x) and G(x) are kept.");
        for (String how : RESETS) {
            HolisticRta x = new HolisticRta(4, 16);
            x.addTransaction(10, 10);
            x.addTransaction(20, 20);
            x.addTransaction(200, 200);
            x.addStep(0, 0, 1, 5);
            x.addStep(1, 1, 1, 5);
            x.addStep(2, 2, 1, 5);
            x.setArrivals(0, 3, 4);
            x.setArrivals(1, 200, 199);
            x.run(77);
            reset(x, how);
            for (int t = 0; t < 450; t++) {
                x.run(1);
                Check.due(how + ", transaction 0, tick " + t, x.runningOn(0), t >= 3 && (t - 3) % 14 == 0 ? 0 : -1);
                Check.due(how + ", transaction 1, tick " + t, x.runningOn(1), t == 200 || t == 419 ? 1 : -1);
            }
        }
    }

    private static void resetOfAResetOne() {
        Check.says("SIMULATION RESET sets: .. (one that comes before the first tick, or twice)");
        HolisticRta x = system();
        String before = Check.simulationView(x);
        x.setArrivals(0, 4, 1);
        x.setArrivals(0, 4, 1);
        Check.same("still as new", Check.simulationView(x), before);
        HolisticRta twin = system();
        x.run(200);
        twin.run(200);
        Check.same("and on from there", Check.view(x), Check.view(twin));
    }

    private static void resetAtTheHorizon() {
        Check.says("SIMULATION RESET sets: .. (at the horizon)");
        for (String how : new String[] {"setArrivals(1, 18, 0)", "addTransaction(200, 200)", "addStep(1, 0, 1, 77)"}) {
            HolisticRta x = Situation.AT_THE_HORIZON.make();
            Check.due("run(1) at the horizon", x.run(1), 0);
            new Real(x).call(how);
            Check.reset(how, x, how.startsWith("addT") ? 4 : 3, how.startsWith("addS") ? 5 : 4);
            if (how.startsWith("addT")) {
                x.addStep(3, 0, 1, 77);
            }
            Check.due(how + ", run(17)", x.run(17), 17);
            Check.due(how + ", the first arrival is at 16", x.runningOn(BUS), 0);
        }
    }

    private static final String[] CHANGES = {"addTransaction(1, 1)", "addTransaction(200, 200)", "addStep(0, 0, 1, 1)",
        "addStep(0, 8, 20, 100)"};

    private static void configurationChangeForgetsTheAnalysis() {
        Check.says("A CONFIGURATION CHANGE .. sets the analysis state to NOT_ANALYSED");
        for (Situation where : Situation.ROOMY) {
            for (String change : CHANGES) {
                HolisticRta x = where.make();
                Check.due(where.name + ", " + change, new Real(x).call(change) >= 0);
                Check.due(where.name + ", " + change + ", state", x.analysisState(), HolisticRta.NOT_ANALYSED);
            }
        }
    }

    private static void configurationChangeResets() {
        Check.says("A CONFIGURATION CHANGE .. then does a SIMULATION RESET.");
        for (Situation where : Situation.ROOMY) {
            for (String change : CHANGES) {
                HolisticRta x = where.make();
                new Real(x).call(change);
                Check.reset(where.name + ", " + change, x, 1, 0);
                for (int s = 0; s < 16; s++) {
                    int left = x.stepRemaining(s);
                    int max = x.stepObservedMax(s);
                    Check.due(where.name + ", " + change + ", work of " + s, left == 0 || left == -12);
                    Check.due(where.name + ", " + change + ", maximum of " + s, max == -1 || max == -12);
                }
            }
        }
    }

    private static void refusedOnesAreNoChange() {
        Check.says("A CONFIGURATION CHANGE is a successful addTransaction or addStep. (a refused one is none)");
        for (Situation where : Situation.ROOMY) {
            where.unchangedBy(-14, "addTransaction(0, 1)", "addTransaction(1, 2)");
            where.unchangedBy(-14, "addStep(0, 0, 0, 1)", "addStep(0, 0, 1, 0)");
        }
        for (Situation where : new Situation[] {Situation.TRANSACTIONS_FULL, Situation.ALL_FULL}) {
            where.unchangedBy(-10, "addTransaction(1, 1)", "addTransaction(200, 200)");
        }
    }

    private static void otherCallsAreNoChange() {
        Check.says("A CONFIGURATION CHANGE is a successful addTransaction or addStep. (no other call is one)");
        for (Situation where : new Situation[] {Situation.ADMITTED, Situation.REFUSED}) {
            HolisticRta x = where.make();
            int state = x.analysisState();
            for (String call : new String[] {"run(1)", "run(0)", "run(1000)", "setArrivals(0, 0, 0)",
                "setArrivals(1, 200, 200)", "analyse()", "analysisState()", "now()", "runningOn(8)", "stepBound(0)"}) {
                new Real(x).call(call);
                Check.due(where.name + ", " + call, x.analysisState(), state);
            }
        }
    }
}
