/** The calls of the public face, so that the class and the model can be asked the same. */
interface Rta {
    int addTransaction(int period, int deadline);

    int addStep(int tx, int resource, int cost, int priority);

    int setArrivals(int tx, int offset, int extraGap);

    int analyse();

    int analysisState();

    int stepBound(int step);

    int transactionBound(int tx);

    int run(int ticks);

    int now();

    int observedMax(int tx);

    int completedCount(int tx);

    int overrunCount(int tx);

    int stepObservedMax(int step);

    int stepRemaining(int step);

    int runningOn(int resource);

    /** The call that a text tells, such as "addStep(0, 8, 6, 20)". */
    default int call(String text) {
        int open = text.indexOf('(');
        String inside = text.substring(open + 1, text.length() - 1).trim();
        String[] parts = inside.isEmpty() ? new String[0] : inside.split("\\s*,\\s*");
        int[] a = new int[parts.length];
        for (int i = 0; i < a.length; i++) {
            a[i] = Integer.parseInt(parts[i]);
        }
        switch (text.substring(0, open)) {
            case "addTransaction": return addTransaction(a[0], a[1]);
            case "addStep": return addStep(a[0], a[1], a[2], a[3]);
            case "setArrivals": return setArrivals(a[0], a[1], a[2]);
            case "analyse": return analyse();
            case "analysisState": return analysisState();
            case "stepBound": return stepBound(a[0]);
            case "transactionBound": return transactionBound(a[0]);
            case "run": return run(a[0]);
            case "now": return now();
            case "observedMax": return observedMax(a[0]);
            case "completedCount": return completedCount(a[0]);
            case "overrunCount": return overrunCount(a[0]);
            case "stepObservedMax": return stepObservedMax(a[0]);
            case "stepRemaining": return stepRemaining(a[0]);
            case "runningOn": return runningOn(a[0]);
            default: throw new IllegalArgumentException(text);
        }
    }
}
