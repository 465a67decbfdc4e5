import java.util.ArrayList;
import java.util.Collections;
import java.util.List;

/** The states that a call can meet, each told by the calls that lead there. */
final class Situation {
    static final Situation FRESH = new Situation("fresh", 2, 4);
    static final Situation EMPTY = new Situation("a transaction without a step", 1, 4,
        "addTransaction(10, 10)", "setArrivals(0, 3, 4)");
    static final Situation INCOMPLETE = new Situation("the second transaction has no step", 2, 6,
        "addTransaction(10, 10)", "addTransaction(20, 15)", "addStep(0, 0, 2, 5)", "addStep(0, 8, 1, 5)",
        "setArrivals(0, 3, 4)", "setArrivals(1, 5, 6)");
    static final Situation NOT_ANALYSED = new Situation("not analysed, under way", 2, 16,
        "addTransaction(40, 40)", "addTransaction(9, 9)", "addStep(0, 0, 4, 10)", "addStep(0, 8, 6, 20)",
        "addStep(0, 1, 5, 10)", "addStep(1, 0, 3, 30)", "addStep(1, 8, 5, 10)", "setArrivals(0, 3, 2)",
        "setArrivals(1, 1, 0)", "run(61)");
    static final Situation ADMITTED = new Situation("admitted, under way", 2, 16,
        "addTransaction(40, 40)", "addTransaction(30, 30)", "addStep(0, 0, 4, 10)", "addStep(0, 8, 6, 20)",
        "addStep(0, 1, 5, 10)", "addStep(1, 0, 3, 30)", "addStep(1, 8, 5, 10)", "setArrivals(0, 3, 2)",
        "setArrivals(1, 1, 0)", "analyse()", "run(94)");
    static final Situation REFUSED = new Situation("refused, under way", 2, 16,
        "addTransaction(40, 40)", "addTransaction(9, 9)", "addStep(0, 0, 4, 10)", "addStep(0, 8, 6, 20)",
        "addStep(0, 1, 5, 10)", "addStep(1, 0, 3, 30)", "addStep(1, 8, 5, 10)", "setArrivals(0, 3, 2)",
        "setArrivals(1, 1, 0)", "analyse()", "run(" + Check.BUSY_TIME + ")");
    static final Situation STEPS_FULL = new Situation("no room for a step", 1, 4,
        "addTransaction(50, 50)", "addTransaction(30, 30)", "addStep(0, 0, 3, 1)", "addStep(1, 0, 3, 2)",
        "addStep(0, 8, 3, 3)", "addStep(1, 8, 3, 4)", "setArrivals(1, 2, 0)", "analyse()", "run(66)");
    static final Situation TRANSACTIONS_FULL = new Situation("no room for a transaction", 3, 16,
        transactions(8, 1, "analyse()", "run(126)"));
    static final Situation ALL_FULL = new Situation("no room for either", 4, 16,
        transactions(8, 2, "analyse()", "run(75)"));
    static final Situation AT_THE_HORIZON = new Situation("at the horizon", 1, 16,
        toTheHorizon("addTransaction(20, 20)", "addTransaction(20, 20)", "addStep(0, 8, 5, 1)", "addStep(1, 8, 2, 9)",
            "setArrivals(0, 16, 0)", "setArrivals(1, 18, 0)", "analyse()"));

    static final Situation[] ALL = {
        FRESH, EMPTY, INCOMPLETE, NOT_ANALYSED, ADMITTED, REFUSED, STEPS_FULL, TRANSACTIONS_FULL, ALL_FULL,
        AT_THE_HORIZON,
    };
    /** Those with a transaction 0 in which there is room for one more step and one more transaction. */
    static final Situation[] ROOMY = {EMPTY, INCOMPLETE, NOT_ANALYSED, ADMITTED, REFUSED, AT_THE_HORIZON};

    final String name;
    private final int processors;
    private final int stepCapacity;
    private final String[] calls;

    private Situation(String name, int processors, int stepCapacity, String... calls) {
        this.name = name;
        this.processors = processors;
        this.stepCapacity = stepCapacity;
        this.calls = calls;
    }

    HolisticRta make() {
        HolisticRta x = new HolisticRta(processors, stepCapacity);
        lead(new Real(x));
        return x;
    }

    Model model() {
        Model m = new Model(processors, stepCapacity);
        lead(m);
        return m;
    }

    private void lead(Rta x) {
        for (String call : calls) {
            x.call(call);
        }
    }

    private static String[] transactions(int count, int stepsOfEach, String... then) {
        List<String> calls = new ArrayList<>();
        for (int tx = 0; tx < count; tx++) {
            calls.add("addTransaction(" + (50 + tx) + ", 50)");
        }
        for (int s = 0; s < count * stepsOfEach; s++) {
            int resource = s < count ? s % 3 : HolisticRta.BUS;
            calls.add("addStep(" + s % count + ", " + resource + ", " + (2 + s % 3) + ", " + (s + 1) + ")");
        }
        for (int tx = 0; tx < count; tx++) {
            calls.add("setArrivals(" + tx + ", " + 2 * tx + ", " + tx + ")");
        }
        Collections.addAll(calls, then);
        return calls.toArray(new String[0]);
    }

    private static String[] toTheHorizon(String... first) {
        List<String> calls = new ArrayList<>(List.of(first));
        calls.addAll(Collections.nCopies(100, "run(1000)"));
        return calls.toArray(new String[0]);
    }

    /** That these calls answer what is due and leave nothing behind that any later call could show. */
    void unchangedBy(int due, String... made) {
        for (int way = 0; way < 2; way++) {
            Rta x = new Real(make());
            for (String call : made) {
                Check.due(name + ", " + call, x.call(call), due);
            }
            sameFuture(String.join(", ", made), x, way);
        }
    }

    /** That an object on which calls were made goes on as one on which they were not. */
    void sameFuture(String made, Rta x, int way) {
        List<String> is = future(x, way);
        List<String> due = future(new Real(make()), way);
        int place = 0;
        while (place + 1 < is.size() && is.get(place).equals(due.get(place))) {
            place++;
        }
        Check.same(name + ", after " + made + ", the answers from " + place, is.get(place), due.get(place));
    }

    /** What is seen along calls that bring up all there is, the two ways each hiding what the other shows. */
    private static List<String> future(Rta x, int way) {
        List<String> seen = new ArrayList<>();
        seen.add(Check.view(x));
        for (String call : List.of("run(1)", "run(40)", "analyse()", "run(300)")) {
            tell(x, call, seen);
        }
        // The pattern of one transaction is lost by the reset: which, is what the ways differ in.
        if (way == 0) {
            tell(x, "setArrivals(0, 1, 1)", seen);
        } else {
            tell(x, "addTransaction(200, 150)", seen);
            tell(x, "addStep(0, 8, 1, 99)", seen);
            tell(x, "addStep(1, 8, 1, 98)", seen);
            tell(x, "addStep(2, 8, 1, 97)", seen);
            tell(x, "setArrivals(7, 0, 0)", seen);
        }
        for (int i = 0; i < 35; i++) {
            tell(x, "run(13)", seen);
        }
        fill(x, seen);
        tell(x, "analyse()", seen);
        tell(x, "run(99)", seen);
        return seen;
    }

    private static void fill(Rta x, List<String> seen) {
        for (int tx = 0; tx <= 8; tx++) {
            tell(x, "addTransaction(" + (100 + tx) + ", 100)", seen);
        }
        for (int priority : new int[] {1, 7, 100}) {
            for (int resource = -1; resource <= 9; resource++) {
                tell(x, "addStep(" + (priority % 3) + ", " + resource + ", 1, " + priority + ")", seen);
            }
        }
    }

    private static void tell(Rta x, String call, List<String> seen) {
        seen.add(call + " answers " + x.call(call) + ", then " + Check.view(x));
    }
}
