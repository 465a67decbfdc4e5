/** Counts the answers that are not as due, and holds what the tests share to look at an object. */
final class Check {
    /** The time at which busy() stops. */
    static final int BUSY_TIME = 134;

    private static final long MOST_MILLISECONDS = 120_000;
    private static final int MOST_WRONG = 200;

    private static String sentence = null;
    private static int sentences = 0;
    private static int lookedBefore = 0;
    private static int looked = 0;
    private static int wrong = 0;

    static {
        Thread watch = new Thread(Check::endAtLast);
        watch.setDaemon(true);
        watch.start();
    }

    private Check() {
    }

    /** A call that does not end is a fault like any other, and should not hold up the tests for ever. */
    private static void endAtLast() {
        try {
            Thread.sleep(MOST_MILLISECONDS);
        } catch (InterruptedException e) {
            return;
        }
        System.out.println("a call does not end");
        Runtime.getRuntime().halt(1);
    }

    /** Names the sentence of the document that is tested from here on; a wrong answer tells it. */
    static void says(String words) {
        closeSentence();
        sentence = words;
        sentences++;
        lookedBefore = looked;
    }

    private static void closeSentence() {
        if (sentence != null && looked == lookedBefore) {
            fail("there is no test");
        }
    }

    private static void fail(String what) {
        wrong++;
        System.out.println(sentence == null ? what : what + "\n  [" + sentence + "]");
        if (wrong == MOST_WRONG) {
            System.out.println("and so on");
            System.exit(1);
        }
    }

    static void due(String what, long got, long want) {
        looked++;
        if (got != want) {
            fail(what + " answered " + got + ", due is " + want);
        }
    }

    static void due(String what, boolean got) {
        looked++;
        if (!got) {
            fail(what + " does not hold");
        }
    }

    static void same(String what, String got, String want) {
        looked++;
        if (!got.equals(want)) {
            fail(what + ":\n  is  " + got + "\n  due " + want);
        }
    }

    static int wrongAnswers() {
        return wrong;
    }

    /** To be called last in every main method. */
    static void end(String test) {
        closeSentence();
        System.out.println(test + ": " + (sentences == 0 ? "" : sentences + " sentences, ")
            + looked + " answers looked at, " + wrong + " not as due");
        if (wrong != 0 || looked == 0) {
            System.exit(1);
        }
    }

    /** What every getter answers, for every id that can exist and for those just outside. */
    static String view(Rta x) {
        return analysisView(x) + " " + simulationView(x);
    }

    static String view(HolisticRta x) {
        return view(new Real(x));
    }

    static String analysisView(HolisticRta x) {
        return analysisView(new Real(x));
    }

    static String simulationView(HolisticRta x) {
        return simulationView(new Real(x));
    }

    private static String analysisView(Rta x) {
        StringBuilder text = new StringBuilder("state " + x.analysisState() + ", step bounds");
        for (int s = -1; s <= 16; s++) {
            text.append(' ').append(x.stepBound(s));
        }
        text.append(", transaction bounds");
        for (int t = -1; t <= 8; t++) {
            text.append(' ').append(x.transactionBound(t));
        }
        return text.toString();
    }

    private static String simulationView(Rta x) {
        StringBuilder text = new StringBuilder("now " + x.now() + ", transactions (max/completed/overruns)");
        for (int t = -1; t <= 8; t++) {
            text.append(' ').append(x.observedMax(t)).append('/').append(x.completedCount(t))
                .append('/').append(x.overrunCount(t));
        }
        text.append(", steps (max/remaining)");
        for (int s = -1; s <= 16; s++) {
            text.append(' ').append(x.stepObservedMax(s)).append('/').append(x.stepRemaining(s));
        }
        text.append(", running");
        for (int r = -1; r <= 9; r++) {
            text.append(' ').append(x.runningOn(r));
        }
        return text.toString();
    }

    /** That the simulation of an object with these many transactions and steps is a reset one. */
    static void reset(String what, HolisticRta x, int transactions, int steps) {
        due(what + ", now()", x.now(), 0);
        for (int t = 0; t < transactions; t++) {
            due(what + ", observedMax(" + t + ")", x.observedMax(t), HolisticRta.NONE);
            due(what + ", completedCount(" + t + ")", x.completedCount(t), 0);
            due(what + ", overrunCount(" + t + ")", x.overrunCount(t), 0);
        }
        for (int s = 0; s < steps; s++) {
            due(what + ", stepObservedMax(" + s + ")", x.stepObservedMax(s), HolisticRta.NONE);
            due(what + ", stepRemaining(" + s + ")", x.stepRemaining(s), 0);
        }
        for (int r : new int[] {0, 1, 2, 3, HolisticRta.BUS}) {
            int last = x.runningOn(r);
            due(what + ", runningOn(" + r + ") is NONE",
                last == HolisticRta.NONE || last == HolisticRta.ERR_RESOURCE);
        }
    }

    /**
     * Two processors; transaction 0 is step 0 (processor 0), 1 (bus), 2 (processor 1), and
     * transaction 1 is step 3 (processor 0), 4 (bus). Analysed, and stopped in the middle of a
     * run: counts, maxima, remaining work, a frame and last runners are all there to be lost.
     */
    static HolisticRta busy() {
        return Situation.REFUSED.make();
    }
}
