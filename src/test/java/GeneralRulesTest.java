import java.util.ArrayList;
import java.util.HashMap;
import java.util.List;
import java.util.Map;

/** The document's general rules, in every situation: any arguments, refused calls, getters. */
public final class GeneralRulesTest {
    private static final String[] GETTERS = {
        "analysisState", "stepBound", "transactionBound", "now", "observedMax", "completedCount", "overrunCount",
        "stepObservedMax", "stepRemaining", "runningOn",
    };

    /** What anyArguments() found to be refused in each situation. */
    private static final Map<Situation, List<String>> refusedCalls = new HashMap<>();

    public static void main(String[] args) {
        situationsAreWhatTheyAreCalled();
        anyArguments();
        anyFourArguments();
        refusedCallsChangeNothing();
        refusedIsNoRefusal();
        gettersChangeNothing();
        objectsAreApart();
        Check.end("GeneralRulesTest");
    }

    /** The tests lean on these: a situation that has lost what it is for would let faults pass. */
    private static void situationsAreWhatTheyAreCalled() {
        for (Situation where : new Situation[] {Situation.FRESH, Situation.EMPTY, Situation.INCOMPLETE}) {
            Check.due(where.name + ", analyse()", where.make().analyse(), -16);
        }
        Check.due("not analysed", Situation.NOT_ANALYSED.make().analysisState(), 0);
        for (Situation where : new Situation[] {Situation.ADMITTED, Situation.CALM_FULL, Situation.CALM_AT_THE_HORIZON}) {
            Check.due(where.name + ", analysisState()", where.make().analysisState(), 1);
        }
        for (Situation where : new Situation[] {Situation.REFUSED, Situation.OVERLOADED, Situation.STEPS_FULL,
            Situation.TRANSACTIONS_FULL, Situation.ALL_FULL, Situation.AT_THE_HORIZON}) {
            HolisticRta x = where.make();
            Check.due(where.name + ", analysisState()", x.analysisState(), 2);
            int overruns = 0;
            for (int tx = 0; tx < 8; tx++) {
                overruns += Math.max(0, x.overrunCount(tx));
            }
            Check.due(where.name + ", there are overruns", overruns > 0);
        }
        for (Situation where : new Situation[] {Situation.TRANSACTIONS_FULL, Situation.ALL_FULL, Situation.CALM_FULL}) {
            Check.due(where.name + ", addTransaction(9, 9)", where.make().addTransaction(9, 9), -10);
        }
        for (Situation where : new Situation[] {Situation.STEPS_FULL, Situation.ALL_FULL, Situation.CALM_FULL}) {
            Check.due(where.name + ", addStep(0, 0, 1, 99)", where.make().addStep(0, 0, 1, 99), -10);
        }
        for (Situation where : new Situation[] {Situation.ADMITTED, Situation.REFUSED, Situation.OVERLOADED,
            Situation.STEPS_FULL, Situation.ALL_FULL}) {
            Check.due(where.name + ", an urgent frame waits for a less urgent one", where.model().urgentFrameWaits());
        }
        for (Situation where : new Situation[] {Situation.AT_THE_HORIZON, Situation.CALM_AT_THE_HORIZON, Situation.STARVED}) {
            Check.due(where.name + ", now()", where.make().now(), HolisticRta.HORIZON);
        }
    }

    /** Every call that is no getter: a strange value in each place, and some in two places at once. */
    private static List<String> manyCalls() {
        List<String> calls = new ArrayList<>();
        calls.add("analyse()");
        for (int a : Values.ALL) {
            calls.add("run(" + a + ")");
            calls.add("addTransaction(" + a + ", 1)");
            calls.add("addTransaction(200, " + a + ")");
            calls.add("setArrivals(" + a + ", 0, 0)");
            calls.add("setArrivals(0, " + a + ", 0)");
            calls.add("setArrivals(0, 0, " + a + ")");
            calls.add("addStep(" + a + ", 0, 1, 1)");
            calls.add("addStep(0, " + a + ", 1, 1)");
            calls.add("addStep(0, 0, " + a + ", 1)");
            calls.add("addStep(0, 0, 1, " + a + ")");
        }
        for (int a : Values.FEW) {
            for (int b : Values.FEW) {
                calls.add("addTransaction(" + a + ", " + b + ")");
                calls.add("setArrivals(0, " + a + ", " + b + ")");
                calls.add("setArrivals(" + a + ", " + b + ", 201)");
            }
        }
        return calls;
    }

    private static List<String> allGetters() {
        List<String> calls = new ArrayList<>();
        for (String getter : GETTERS) {
            if (getter.equals("analysisState") || getter.equals("now")) {
                calls.add(getter + "()");
                continue;
            }
            for (int a : Values.ALL) {
                calls.add(getter + "(" + a + ")");
            }
        }
        return calls;
    }

    private static void anyArguments() {
        Check.says("Arguments may be any int values.");
        List<String> calls = manyCalls();
        calls.addAll(allGetters());
        for (Situation where : Situation.ALL) {
            List<String> refused = new ArrayList<>();
            Rta x = new Real(where.make());
            Model m = where.model();
            for (String call : calls) {
                String before = Check.view(m);
                int due = m.call(call);
                Check.due(where.name + ", " + call, x.call(call), due);
                String after = Check.view(m);
                Check.same(where.name + ", seen after " + call, Check.view(x), after);
                if (due <= HolisticRta.ERR_FULL) {
                    refused.add(call);
                } else if (!before.equals(after)) {
                    // Undone, so that the next call meets the same situation.
                    x = new Real(where.make());
                    m = where.model();
                }
            }
            refusedCalls.put(where, refused);
        }
    }

    private static void anyFourArguments() {
        Check.says("Arguments may be any int values. (addStep)");
        for (Situation where : Situation.ALL) {
            Rta x = new Real(where.make());
            Model m = where.model();
            String before = Check.view(x);
            for (int tx : Values.FEW) {
                for (int resource : Values.FEW) {
                    for (int cost : Values.FEW) {
                        for (int priority : Values.FEW) {
                            int due = m.addStep(tx, resource, cost, priority);
                            String what = tx + ", " + resource + ", " + cost + ", " + priority;
                            int got = x.addStep(tx, resource, cost, priority);
                            Check.due(where.name + ", addStep(" + what + ")", got, due);
                            if (due >= 0) {
                                x = new Real(where.make());
                                m = where.model();
                            }
                        }
                    }
                }
            }
            Check.same(where.name + ", after refused calls of addStep", Check.view(x), before);
        }
    }

    private static void refusedCallsChangeNothing() {
        Check.says("A refused call (one that answers an ERR_ constant) answers the stated error constant and changes "
            + "nothing at all.");
        for (Situation where : Situation.ALL) {
            List<String> refused = refusedCalls.get(where);
            Check.due(where.name + ", there are refused calls", refused.size() > 500);
            where.unchangedBy(refused.size() + " refused calls", x -> {
                for (String call : refused) {
                    int got = x.call(call);
                    Check.due(where.name + ", " + call + " answers an ERR_ constant", got <= -10 && got >= -16);
                }
            });
        }
    }

    private static void refusedIsNoRefusal() {
        Check.says("This is unrelated to the analysis state REFUSED, which is a normal answer of a successful analyse.");
        HolisticRta x = Situation.NOT_ANALYSED.make();
        Check.due("analyse()", x.analyse(), HolisticRta.REFUSED);
        Check.due("the state is changed", x.analysisState(), HolisticRta.REFUSED);
        Check.due("there is a bound", x.stepBound(0), 7);
        Check.due("and one that is INF", x.stepBound(4), HolisticRta.UNBOUNDED);
    }

    private static void gettersChangeNothing() {
        Check.says("Getters change nothing.");
        for (Situation where : Situation.ALL) {
            where.unchangedBy("the getters", x -> {
                for (String call : allGetters()) {
                    int answer = x.call(call);
                    Check.due(where.name + ", " + call + " again", x.call(call), answer);
                }
            });
        }
    }

    private static void objectsAreApart() {
        Check.says("The simulation state consists of: .. (each object has its own)");
        HolisticRta one = Check.busy();
        String before = Check.view(one);
        HolisticRta other = new HolisticRta(1, 4);
        other.addTransaction(7, 7);
        other.addStep(0, 0, 2, 2);
        other.analyse();
        other.run(33);
        Check.same("an object after calls on another", Check.view(one), before);
    }
}
