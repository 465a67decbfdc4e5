/** Promise 6: analysisState. */
public final class Promise06AnalysisStateTest {
    public static void main(String[] args) {
        fresh();
        notUntilASuccessfulAnalyse();
        afterEveryConfigurationChange();
        admittedIsKept();
        refusedIsKept();
        latestAnalyseCounts();
        changesNothing();
        Check.end("Promise06AnalysisStateTest");
    }

    private static void fresh() {
        Check.says("NOT_ANALYSED on a fresh object ..");
        Check.due("fresh", new HolisticRta(1, 4).analysisState(), 0);
        Check.due("fresh, greatest", new HolisticRta(4, 16).analysisState(), 0);
    }

    private static void notUntilASuccessfulAnalyse() {
        Check.says(".. until the next successful analyse");
        HolisticRta x = new HolisticRta(1, 8);
        x.analyse();
        Check.due("a refused analyse on a fresh object", x.analysisState(), 0);
        x.addTransaction(10, 10);
        x.analyse();
        Check.due("a refused analyse without a step", x.analysisState(), 0);
        x.addStep(0, 0, 3, 1);
        x.run(3);
        Check.due("a run", x.analysisState(), 0);
        x.setArrivals(0, 1, 1);
        Check.due("arrivals", x.analysisState(), 0);
        x.stepBound(0);
        x.transactionBound(0);
        Check.due("bounds that are asked for", x.analysisState(), 0);
        x.analyse();
        Check.due("a successful analyse", x.analysisState(), 1);
    }

    private static void afterEveryConfigurationChange() {
        Check.says("NOT_ANALYSED .. after every configuration change");
        for (Situation where : new Situation[] {Situation.ADMITTED, Situation.REFUSED, Situation.AT_THE_HORIZON,
            Situation.CALM_AT_THE_HORIZON}) {
            HolisticRta x = where.make();
            for (int i = 0; i < 4; i++) {
                Check.due(where.name + ", analysed", x.analysisState() > 0);
                x.addStep(i % 2, 0, 1, 60 + i);
                Check.due(where.name + ", after addStep no. " + i, x.analysisState(), 0);
                x.addStep(i % 2, 0, 1, 70 + i);
                Check.due(where.name + ", after a second addStep no. " + i, x.analysisState(), 0);
                x.analyse();
            }
            x.addTransaction(10, 10);
            Check.due(where.name + ", after addTransaction", x.analysisState(), 0);
            x.analyse();
            Check.due(where.name + ", after a refused analyse", x.analysisState(), 0);
        }
    }

    private static final String[] NO_CHANGES = {
        "run(25)", "run(0)", "run(-1)", "setArrivals(0, 0, 0)", "setArrivals(0, 200, 200)", "setArrivals(9, 0, 0)",
        "addTransaction(0, 0)", "addTransaction(201, 1)", "addStep(9, 0, 1, 1)", "addStep(0, 9, 1, 1)", "addStep(0, 0, 0, 1)",
        "addStep(0, 0, 1, 0)", "addStep(0, 0, 1, 10)", "analyse()", "analysisState()",
    };

    private static void admittedIsKept() {
        Check.says("otherwise the result of the latest successful analyse. (ADMITTED)");
        HolisticRta x = Situation.ADMITTED.make();
        for (String call : NO_CHANGES) {
            new Real(x).call(call);
            Check.due("after " + call, x.analysisState(), HolisticRta.ADMITTED);
        }
    }

    private static void refusedIsKept() {
        Check.says("otherwise the result of the latest successful analyse. (REFUSED)");
        HolisticRta x = Situation.REFUSED.make();
        for (String call : NO_CHANGES) {
            new Real(x).call(call);
            Check.due("after " + call, x.analysisState(), HolisticRta.REFUSED);
        }
    }

    private static void latestAnalyseCounts() {
        Check.says("otherwise the result of the latest successful analyse. (one after another)");
        HolisticRta x = new HolisticRta(1, 8);
        x.addTransaction(10, 10);
        x.addStep(0, 0, 3, 1);
        x.analyse();
        Check.due("admitted", x.analysisState(), 1);
        x.addStep(0, 0, 20, 2);
        x.analyse();
        Check.due("then refused", x.analysisState(), 2);
        x.addTransaction(10, 10);
        x.addStep(1, 8, 1, 1);
        x.analyse();
        Check.due("refused again", x.analysisState(), 2);
    }

    private static void changesNothing() {
        Check.says("It changes nothing.");
        for (Situation where : Situation.ALL) {
            int state = where.make().analysisState();
            where.unchangedBy(state, "analysisState()", "analysisState()");
        }
    }
}
