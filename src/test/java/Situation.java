import java.util.ArrayList;
import java.util.Collections;
import java.util.List;
import java.util.function.Consumer;

/** The states that a call can meet, each told by the calls that lead there. */
final class Situation {
    static final Situation FRESH = new Situation("fresh", 2, 4);
    static final Situation EMPTY = new Situation("a transaction without a step", 1, 4,
        "addTransaction(10, 10)", "setArrivals(0, 3, 4)");
    static final Situation INCOMPLETE = new Situation("the second transaction has no step", 2, 6,
        "addTransaction(10, 10)", "addTransaction(20, 15)", "addStep(0, 0, 2, 5)", "addStep(0, 8, 1, 5)",
        "setArrivals(0, 3, 4)", "setArrivals(1, 5, 6)");
    static final Situation NOT_ANALYSED = new Situation("not analysed, under way", 2, 16,
        "addTransaction(40, 40)", "addTransaction(9, 9)", "addStep(0, 0, 4, 10)", "addStep(0, 8, 6, 20)",
        "addStep(0, 1, 5, 10)", "addStep(1, 0, 3, 30)", "addStep(1, 8, 5, 10)", "setArrivals(0, 3, 2)",
        "setArrivals(1, 1, 0)", "run(43)");
    static final Situation ADMITTED = new Situation("admitted, under way", 2, 16,
        "addTransaction(40, 40)", "addTransaction(30, 30)", "addStep(0, 0, 4, 10)", "addStep(0, 8, 6, 20)",
        "addStep(0, 1, 5, 10)", "addStep(1, 0, 3, 30)", "addStep(1, 8, 5, 19)", "setArrivals(0, 3, 2)",
        "setArrivals(1, 1, 0)", "analyse()", "run(218)");
    static final Situation REFUSED = new Situation("refused, under way", 2, 16,
        "addTransaction(40, 40)", "addTransaction(9, 9)", "addStep(0, 0, 4, 10)", "addStep(0, 8, 6, 20)",
        "addStep(0, 1, 5, 10)", "addStep(1, 0, 3, 30)", "addStep(1, 8, 5, 10)", "setArrivals(0, 3, 2)",
        "setArrivals(1, 1, 0)", "analyse()", "run(" + Check.BUSY_TIME + ")");
    /** Every transaction is in flight at its next arrival, and an urgent frame waits for a less urgent one. */
    static final Situation OVERLOADED = new Situation("overloaded, under way", 2, 16,
        "addTransaction(7, 7)", "addTransaction(11, 11)", "addTransaction(11, 11)", "addStep(0, 0, 4, 50)",
        "addStep(1, 0, 2, 40)", "addStep(2, 1, 8, 5)", "addStep(0, 8, 3, 90)", "addStep(1, 8, 9, 10)", "addStep(2, 1, 8, 6)",
        "setArrivals(0, 2, 0)", "setArrivals(1, 1, 1)", "setArrivals(2, 3, 2)", "analyse()", "run(35)");
    static final Situation STEPS_FULL = new Situation("no room for a step, overloaded", 1, 4,
        "addTransaction(9, 9)", "addTransaction(7, 7)", "addStep(0, 0, 3, 1)", "addStep(1, 0, 3, 2)",
        "addStep(0, 8, 3, 5)", "addStep(1, 8, 6, 4)", "setArrivals(0, 0, 1)", "setArrivals(1, 2, 0)", "analyse()", "run(36)");
    static final Situation TRANSACTIONS_FULL = new Situation("no room for a transaction, overloaded", 3, 16,
        transactions(8, 1, 15, "analyse()", "run(60)"));
    static final Situation ALL_FULL = new Situation("no room for either, overloaded", 4, 16,
        transactions(8, 2, 15, "analyse()", "run(55)"));
    static final Situation CALM_FULL = new Situation("no room for either, admitted", 4, 16,
        transactions(8, 2, 100, "analyse()", "run(212)"));
    static final Situation AT_THE_HORIZON = new Situation("at the horizon", 1, 16,
        toTheHorizon("addTransaction(20, 20)", "addTransaction(20, 20)", "addTransaction(3, 3)", "addStep(0, 8, 5, 1)",
            "addStep(1, 8, 2, 9)", "addStep(2, 0, 5, 6)", "addStep(1, 0, 1, 5)", "setArrivals(0, 16, 0)",
            "setArrivals(1, 18, 0)", "analyse()"));
    static final Situation CALM_AT_THE_HORIZON = new Situation("at the horizon, admitted", 1, 16,
        toTheHorizon("addTransaction(20, 20)", "addTransaction(30, 30)", "addStep(0, 0, 5, 2)", "addStep(1, 0, 7, 1)",
            "setArrivals(0, 15, 0)", "analyse()"));
    /**
     * Transaction 0 takes 200 ticks of every 201, and transaction 2 four fifths of what is left: the four
     * steps of transaction 1, 11 to 14, end tens of thousands of ticks after their arrival.
     */
    static final Situation STARVED = new Situation("starved, at the horizon", 1, 16,
        toTheHorizon("addTransaction(1, 1)", "addStep(0, 0, 20, 91)", "addStep(0, 0, 20, 92)", "addStep(0, 0, 20, 93)",
            "addStep(0, 0, 20, 94)", "addStep(0, 0, 20, 95)", "addStep(0, 0, 20, 96)", "addStep(0, 0, 20, 97)",
            "addStep(0, 0, 20, 98)", "addStep(0, 0, 20, 99)", "addStep(0, 0, 20, 100)", "addTransaction(200, 200)",
            "addTransaction(200, 200)", "addStep(2, 0, 1, 50)", "addStep(1, 0, 20, 1)", "addStep(1, 0, 20, 2)",
            "addStep(1, 0, 20, 3)", "addStep(1, 0, 20, 4)", "setArrivals(0, 0, 200)", "setArrivals(2, 0, 50)"));

    static final Situation[] ALL = {
        FRESH, EMPTY, INCOMPLETE, NOT_ANALYSED, ADMITTED, REFUSED, OVERLOADED, STEPS_FULL, TRANSACTIONS_FULL, ALL_FULL,
        CALM_FULL, AT_THE_HORIZON, CALM_AT_THE_HORIZON,
    };
    /** Those with a transaction 0 in which there is room for one more step and one more transaction. */
    static final Situation[] ROOMY = {EMPTY, INCOMPLETE, NOT_ANALYSED, ADMITTED, REFUSED, OVERLOADED, AT_THE_HORIZON};

    private static final List<String> RESET_OF_THE_FIRST = List.of("setArrivals(0, 1, 1)");
    private static final List<String> RESET_OF_OTHERS = List.of("addTransaction(200, 150)", "addStep(0, 8, 1, 99)",
        "addStep(1, 8, 1, 98)", "addStep(2, 8, 1, 97)", "addStep(3, 8, 1, 96)", "setArrivals(7, 0, 0)");
    private static final int SEEN_WAYS = 2;
    private static final String[][] SILENT_WAYS = {
        {"run(1)"}, {"run(2)"}, {"run(5)"}, {"run(13)"}, {"run(29)"}, {"run(300)"}, {"analyse()"},
        {"setArrivals(0, 1, 1)", "run(17)"}, {"setArrivals(0, 1, 1)", "run(450)"},
        {"addTransaction(200, 150)", "addStep(0, 8, 1, 99)", "addStep(1, 8, 1, 98)", "addStep(2, 8, 1, 97)",
            "addStep(3, 8, 1, 96)", "setArrivals(7, 0, 0)", "analyse()", "run(450)"},
    };
    /** Any one of these is asked before all others by one of the ways. */
    private static final String[] GETTERS = {
        "analysisState", "stepBound", "transactionBound", "now", "observedMax", "completedCount", "overrunCount",
        "stepObservedMax", "stepRemaining", "runningOn",
    };

    final String name;
    private final int processors;
    private final int stepCapacity;
    private final String[] calls;

    private Situation(String name, int processors, int stepCapacity, String... calls) {
        this.name = name;
        this.processors = processors;
        this.stepCapacity = stepCapacity;
        this.calls = calls;
    }

    HolisticRta make() {
        HolisticRta x = new HolisticRta(processors, stepCapacity);
        lead(new Real(x));
        return x;
    }

    Model model() {
        Model m = new Model(processors, stepCapacity);
        lead(m);
        return m;
    }

    private void lead(Rta x) {
        for (String call : calls) {
            x.call(call);
        }
    }

    private static String[] transactions(int count, int stepsOfEach, int period, String... then) {
        List<String> calls = new ArrayList<>();
        for (int tx = 0; tx < count; tx++) {
            calls.add("addTransaction(" + (period + tx) + ", " + period + ")");
        }
        for (int s = 0; s < count * stepsOfEach; s++) {
            int resource = s >= count ? HolisticRta.BUS : s < 2 ? 0 : 1;
            calls.add("addStep(" + s % count + ", " + resource + ", " + (2 + s % 3) + ", " + (50 - s) + ")");
        }
        for (int tx = 0; tx < count; tx++) {
            calls.add("setArrivals(" + tx + ", " + tx + ", " + tx % 2 + ")");
        }
        Collections.addAll(calls, then);
        return calls.toArray(new String[0]);
    }

    private static String[] toTheHorizon(String... first) {
        List<String> calls = new ArrayList<>(List.of(first));
        calls.addAll(Collections.nCopies(100, "run(1000)"));
        return calls.toArray(new String[0]);
    }

    /** That these calls answer what is due and leave nothing behind that any later call could show. */
    void unchangedBy(int due, String... made) {
        unchangedBy(String.join(", ", made), x -> {
            for (String call : made) {
                Check.due(name + ", " + call, x.call(call), due);
            }
        });
    }

    /** That an object on which calls were made goes on as one on which they were not. */
    void unchangedBy(String what, Consumer<Rta> made) {
        for (int way = 0; way < SEEN_WAYS + SILENT_WAYS.length + GETTERS.length; way++) {
            Rta x = new Real(make());
            made.accept(x);
            List<String> is = future(x, way);
            List<String> due = future(new Real(make()), way);
            int place = 0;
            while (place + 1 < is.size() && is.get(place).equals(due.get(place))) {
                place++;
            }
            Check.same(name + ", after " + what + ", way " + way + ", answer " + place, is.get(place), due.get(place));
        }
    }

    /** What is answered along calls that bring up all there is, the ways each hiding what another one shows. */
    private static List<String> future(Rta x, int way) {
        List<String> seen = new ArrayList<>();
        int silent = way - SEEN_WAYS;
        // A getter that changes something would change both objects alike, were they looked at on the way.
        if (way < SEEN_WAYS) {
            seenFuture(x, way, seen);
        } else if (silent < SILENT_WAYS.length) {
            for (String call : SILENT_WAYS[silent]) {
                seen.add(call + " answers " + x.call(call));
            }
            seen.add(Check.view(x));
        } else {
            askFirst(x, GETTERS[silent - SILENT_WAYS.length], seen);
        }
        return seen;
    }

    private static void askFirst(Rta x, String getter, List<String> seen) {
        if (getter.equals("analysisState") || getter.equals("now")) {
            seen.add(getter + "() answers " + x.call(getter + "()"));
            return;
        }
        for (int id = -1; id <= 16; id++) {
            seen.add(getter + "(" + id + ") answers " + x.call(getter + "(" + id + ")"));
        }
    }

    private static void seenFuture(Rta x, int way, List<String> seen) {
        seen.add(Check.view(x));
        for (String call : List.of("run(1)", "run(40)", "analyse()", "run(300)")) {
            tell(x, call, seen);
        }
        // The pattern of one transaction is lost by the reset: which, is what the ways differ in.
        for (String call : way == 0 ? RESET_OF_THE_FIRST : RESET_OF_OTHERS) {
            tell(x, call, seen);
        }
        tell(x, "analyse()", seen);
        for (int i = 0; i < 35; i++) {
            tell(x, "run(13)", seen);
        }
        fill(x, seen);
        tell(x, "analyse()", seen);
        tell(x, "run(99)", seen);
    }

    private static void fill(Rta x, List<String> seen) {
        for (int tx = 0; tx <= 8; tx++) {
            tell(x, "addTransaction(" + (100 + tx) + ", 100)", seen);
        }
        for (int priority : new int[] {1, 7, 100}) {
            for (int resource = -1; resource <= 9; resource++) {
                tell(x, "addStep(" + (priority % 3) + ", " + resource + ", 1, " + priority + ")", seen);
            }
        }
    }

    private static void tell(Rta x, String call, List<String> seen) {
        seen.add(call + " answers " + x.call(call) + ", then " + Check.view(x));
    }
}
