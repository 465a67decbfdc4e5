/** Promise 5: analyse. What the bounds must be is tested in TermsAnalysisTest and LeastBoundTest. */
public final class Promise05AnalyseTest {
    private static final int BUS = HolisticRta.BUS;

    public static void main(String[] args) {
        incomplete();
        incompleteChangesNothing();
        incompleteAgain();
        setsAndAnswersTheState();
        leastVectorAtEveryCall();
        fullConfiguration();
        longestChain();
        simulationIsUntouched();
        configurationIsUnchanged();
        againGivesTheSame();
        againAfterAChange();
        arrivalPatternDoesNotCount();
        Check.end("Promise05AnalyseTest");
    }

    private static void incomplete() {
        Check.says("If the configuration is not COMPLETE, it answers ERR_INCOMPLETE ..");
        HolisticRta x = new HolisticRta(1, 16);
        Check.due("no transaction", x.analyse(), -16);
        for (int count = 1; count <= 8; count++) {
            x.addTransaction(100, 100);
            Check.due(count + " transactions, the last without a step", x.analyse(), -16);
            x.addStep(count - 1, 0, 1, count);
            Check.due(count + " transactions with a step", x.analyse(), 1);
        }
        HolisticRta y = new HolisticRta(1, 4);
        y.addTransaction(10, 10);
        y.addTransaction(10, 10);
        y.addStep(1, 0, 1, 1);
        Check.due("none in the first", y.analyse(), -16);
        // Four steps fill it: it can never become complete.
        y.addStep(1, 0, 1, 2);
        y.addStep(1, 0, 1, 3);
        y.addStep(1, 0, 1, 4);
        Check.due("none in the first, and no room", y.analyse(), -16);
    }

    private static void incompleteChangesNothing() {
        Check.says(".. and changes nothing.");
        for (Situation where : new Situation[] {Situation.FRESH, Situation.EMPTY, Situation.INCOMPLETE}) {
            where.unchangedBy(-16, "analyse()");
            HolisticRta x = where.make();
            x.analyse();
            Check.due(where.name + ", analysisState()", x.analysisState(), 0);
        }
    }

    private static void incompleteAgain() {
        Check.says("If the configuration is not COMPLETE (it was, and was analysed, before a transaction was added)");
        for (Situation where : new Situation[] {Situation.ADMITTED, Situation.REFUSED, Situation.AT_THE_HORIZON}) {
            HolisticRta x = where.make();
            int id = x.addTransaction(100, 100);
            Check.due(where.name + ", analyse()", x.analyse(), -16);
            Check.due(where.name + ", analysisState()", x.analysisState(), 0);
            Check.due(where.name + ", stepBound(0)", x.stepBound(0), -2);
            Check.due(where.name + ", transactionBound(" + id + ")", x.transactionBound(id), -2);
            x.addStep(id, 0, 1, 1);
            Check.due(where.name + ", analyse() with a step", x.analyse() > 0);
        }
    }

    private static void setsAndAnswersTheState() {
        Check.says("It sets the analysis state to ADMITTED if every bound is finite, else to REFUSED, and answers that state.");
        for (int deadline = 1; deadline <= 10; deadline++) {
            HolisticRta x = new HolisticRta(1, 4);
            x.addTransaction(10, deadline);
            x.addStep(0, 0, 5, 1);
            int due = deadline >= 5 ? HolisticRta.ADMITTED : HolisticRta.REFUSED;
            Check.due("deadline " + deadline + ", analyse()", x.analyse(), due);
            Check.due("deadline " + deadline + ", analysisState()", x.analysisState(), due);
            Check.due("deadline " + deadline + ", stepBound(0)", x.stepBound(0), deadline >= 5 ? 5 : -1);
        }
    }

    private static void leastVectorAtEveryCall() {
        Check.says("Otherwise it computes the ANALYSED BOUNDS (the least vector R with F(R) = R, as defined above).");
        // A chain that meets itself: (8, 11) solves the equations as well.
        HolisticRta x = new HolisticRta(1, 4);
        x.addTransaction(12, 12);
        x.addStep(0, 0, 2, 1);
        x.addStep(0, 0, 3, 2);
        for (int i = 0; i < 3; i++) {
            Bounds.due("call " + i, x, 1, 5, 8);
        }
        // Bounds left from before, whether higher or lower, have no part in it.
        x.addStep(0, 0, 1, 3);
        Bounds.due("with one more", x, 2, -1, -1, -1);
        x.addTransaction(12, 12);
        x.addStep(1, BUS, 1, 1);
        Bounds.due("and with another transaction", x, 2, -1, -1, -1, 2);
    }

    private static void fullConfiguration() {
        Check.says("Otherwise it computes the ANALYSED BOUNDS (8 transactions, 16 steps)");
        HolisticRta x = new HolisticRta(4, 16);
        for (int tx = 0; tx < 8; tx++) {
            x.addTransaction(200, 200);
        }
        for (int s = 0; s < 16; s++) {
            x.addStep(s % 8, BUS, s < 8 ? 20 : 1, 100 - s);
        }
        // 20 + 20 s + 20 for the heads, up to 180; every second frame comes too late.
        Bounds.due("16 frames", x, 2, 40, 60, 80, 100, 120, 140, 160, 180, -1, -1, -1, -1, -1, -1, -1, -1);
        HolisticRta heavy = new HolisticRta(1, 16);
        for (int tx = 0; tx < 8; tx++) {
            heavy.addTransaction(1, 1);
        }
        for (int s = 0; s < 16; s++) {
            heavy.addStep(s % 8, s < 8 ? 0 : BUS, 20, 100 - s);
        }
        Check.due("the most work there can be", heavy.analyse(), 2);
        for (int s = 0; s < 16; s++) {
            Check.due("stepBound(" + s + ")", heavy.stepBound(s), -1);
        }
    }

    private static void longestChain() {
        Check.says("Otherwise it computes the ANALYSED BOUNDS (one chain of 16 steps)");
        HolisticRta x = new HolisticRta(4, 16);
        x.addTransaction(200, 200);
        for (int s = 0; s < 16; s++) {
            x.addStep(0, s % 4, 1, 100 - s);
        }
        // One tick for each, and one more for every more urgent step on its processor: 4 * (1 + 2 + 3 + 4).
        Bounds.due("16 light steps", x, 1, 1, 2, 3, 4, 6, 8, 10, 12, 15, 18, 21, 24, 28, 32, 36, 40);
        HolisticRta rising = new HolisticRta(1, 16);
        rising.addTransaction(200, 200);
        for (int s = 0; s < 5; s++) {
            rising.addStep(0, 0, 2, 10 + s);
        }
        // Every later step is more urgent than all before it: 10, 8, 6, 4, 2.
        Bounds.due("the later the more urgent", rising, 1, 10, 18, 24, 28, 30);
    }

    private static void simulationIsUntouched() {
        Check.says("The simulation is untouched: now, counts, maxima, rem, frame and last runners all stay as they were.");
        for (Situation where : new Situation[] {Situation.NOT_ANALYSED, Situation.ADMITTED, Situation.REFUSED,
            Situation.OVERLOADED, Situation.STEPS_FULL, Situation.TRANSACTIONS_FULL, Situation.ALL_FULL,
            Situation.CALM_FULL, Situation.AT_THE_HORIZON}) {
            HolisticRta x = where.make();
            String before = Check.simulationView(x);
            Check.due(where.name + ", analyse()", x.analyse() > 0);
            Check.same(where.name, Check.simulationView(x), before);
            HolisticRta twin = where.make();
            for (int part = 0; part < 40; part++) {
                x.run(7);
                twin.run(7);
                Check.same(where.name + ", and on from there", Check.simulationView(x), Check.simulationView(twin));
            }
        }
    }

    private static void configurationIsUnchanged() {
        Check.says("The configuration is unchanged.");
        for (Situation where : new Situation[] {Situation.ADMITTED, Situation.REFUSED, Situation.OVERLOADED,
            Situation.STEPS_FULL, Situation.TRANSACTIONS_FULL, Situation.ALL_FULL, Situation.CALM_FULL,
            Situation.AT_THE_HORIZON}) {
            where.unchangedBy(where.make().analysisState(), "analyse()");
        }
    }

    private static void againGivesTheSame() {
        Check.says("Calling it again without a configuration change in between gives the same state and the same bounds.");
        for (Situation where : new Situation[] {Situation.ADMITTED, Situation.REFUSED, Situation.ALL_FULL,
            Situation.AT_THE_HORIZON}) {
            HolisticRta x = where.make();
            String before = Check.analysisView(x);
            int state = x.analysisState();
            for (String between : new String[] {"now()", "run(0)", "run(1)", "run(1000)", "setArrivals(0, 0, 0)",
                "setArrivals(1, 200, 200)", "addTransaction(0, 0)", "addStep(0, 0, 0, 0)", "analyse()"}) {
                new Real(x).call(between);
                Check.due(where.name + ", after " + between, x.analyse(), state);
                Check.same(where.name + ", after " + between, Check.analysisView(x), before);
            }
        }
    }

    private static void againAfterAChange() {
        Check.says("Calling it again without a configuration change in between (with one, all is reckoned anew)");
        HolisticRta x = Bounds.with(Bounds.tx(20, 9));
        x.addStep(0, 0, 4, 1);
        Bounds.due("one step", x, 1, 4);
        x.addStep(0, 1, 6, 1);
        Bounds.due("refused with a second", x, 2, 4, -1);
        x.addTransaction(30, 30);
        x.addStep(1, 0, 1, 9);
        Bounds.due("refused with one above", x, 2, 5, -1, 1);
        HolisticRta y = Bounds.with(Bounds.tx(20, 20));
        y.addStep(0, 0, 4, 1);
        y.addStep(0, 1, 6, 1);
        Bounds.due("admitted", y, 1, 4, 10);
        y.addTransaction(20, 2);
        y.addStep(1, 2, 3, 1);
        Bounds.due("refused by another transaction alone", y, 2, 4, 10, -1);
    }

    private static void arrivalPatternDoesNotCount() {
        Check.says("T(j) means T(tx(j)). (offset and extra gap have no part in the analysis)");
        for (int offset : new int[] {0, 50, 200}) {
            for (int gap : new int[] {0, 1, 200}) {
                HolisticRta x = Bounds.with(Bounds.tx(6, 6), Bounds.tx(20, 20));
                x.addStep(0, 0, 3, 2);
                x.addStep(1, 0, 4, 1);
                x.setArrivals(0, offset, gap);
                x.setArrivals(1, gap, offset);
                Bounds.due("offset " + offset + ", gap " + gap, x, 1, 3, 10);
            }
        }
    }
}
