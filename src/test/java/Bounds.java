/** What the tests of the analysis share. */
final class Bounds {
    private Bounds() {
    }

    /** Four processors, and a transaction for every row of {period, deadline}. */
    static HolisticRta with(int[]... rows) {
        HolisticRta x = new HolisticRta(4, 16);
        for (int[] row : rows) {
            x.addTransaction(row[0], row[1]);
        }
        return x;
    }

    static int[] tx(int period, int deadline) {
        return new int[] {period, deadline};
    }

    /** That analyse() answers the state, and that these are the bounds of steps 0, 1, 2, .. */
    static void due(String what, HolisticRta x, int state, int... bounds) {
        Check.due(what + ", analyse()", x.analyse(), state);
        Check.due(what + ", analysisState()", x.analysisState(), state);
        for (int s = 0; s < bounds.length; s++) {
            Check.due(what + ", stepBound(" + s + ")", x.stepBound(s), bounds[s]);
        }
        Check.due(what + ", the step after the last", x.stepBound(bounds.length), -12);
    }
}
