/** Promise 6: analysisState. */
public final class Promise06AnalysisStateTest {
    public static void main(String[] args) {
        HolisticRta x = new HolisticRta(1, 8);
        Check.due("fresh", x.analysisState(), 0);
        x.addTransaction(10, 10);
        Check.due("a transaction", x.analysisState(), 0);
        x.analyse();
        Check.due("a refused analyse", x.analysisState(), 0);
        x.addStep(0, 0, 3, 1);
        Check.due("a step", x.analysisState(), 0);
        x.run(3);
        Check.due("a run", x.analysisState(), 0);
        x.setArrivals(0, 1, 1);
        Check.due("arrivals", x.analysisState(), 0);
        x.analyse();
        Check.due("admitted", x.analysisState(), 1);
        Check.due("asked again", x.analysisState(), 1);
        x.run(25);
        x.setArrivals(0, 0, 0);
        Check.due("kept over run and setArrivals", x.analysisState(), 1);
        x.addStep(0, 0, 3, 1);
        x.addTransaction(0, 0);
        Check.due("kept over refused changes", x.analysisState(), 1);
        x.addStep(0, 0, 20, 2);
        Check.due("after addStep", x.analysisState(), 0);
        x.analyse();
        Check.due("refused", x.analysisState(), 2);
        x.run(25);
        x.setArrivals(0, 0, 0);
        x.addStep(9, 0, 3, 1);
        Check.due("REFUSED is kept as well", x.analysisState(), 2);
        x.addTransaction(10, 10);
        Check.due("after addTransaction", x.analysisState(), 0);
        x.analyse();
        Check.due("incomplete", x.analysisState(), 0);
        changesNothing();
        Check.end("Promise06AnalysisStateTest");
    }

    private static void changesNothing() {
        HolisticRta x = Check.busy();
        HolisticRta twin = Check.busy();
        for (int i = 0; i < 5; i++) {
            x.analysisState();
        }
        Check.same("after the getter", Check.view(x), Check.view(twin));
        x.run(99);
        twin.run(99);
        Check.same("and on from there", Check.view(x), Check.view(twin));
    }
}
