/** Promise 7: stepBound. */
public final class Promise07StepBoundTest {
    private static final int[] NEVER = {Values.MIN, Values.MIN + 1, -65536, -256, -16, -2, -1, 16, 17, 256, 65536, Values.MAX};

    public static void main(String[] args) {
        wrongIdsInEverySituation();
        idAfterTheLast();
        wrongIdBeforeNoBoundYet();
        noBoundYet();
        boundOrUnbounded();
        finiteLiesWithinTheDeadline();
        admittedMeansFinite();
        keptUntilTheConfigurationChanges();
        Ids.changesNothing("stepBound");
        Check.end("Promise07StepBoundTest");
    }

    private static void wrongIdsInEverySituation() {
        Check.says("step is not an existing id: ERR_NO_STEP.");
        for (Situation where : Situation.ALL) {
            HolisticRta x = where.make();
            for (int id : NEVER) {
                Check.due(where.name + ", stepBound(" + id + ")", x.stepBound(id), -12);
            }
        }
    }

    private static void idAfterTheLast() {
        Check.says("step is not an existing id (the first that does not exist yet, the last that does)");
        HolisticRta x = new HolisticRta(1, 16);
        x.addTransaction(200, 200);
        Check.due("no step, stepBound(0)", x.stepBound(0), -12);
        for (int count = 1; count <= 16; count++) {
            x.addStep(0, 0, 1, count);
            Check.due(count + " steps, the last", x.stepBound(count - 1), -2);
            Check.due(count + " steps, the next", x.stepBound(count), -12);
            x.analyse();
            Check.due(count + " steps, analysed, the first", x.stepBound(0), count);
            Check.due(count + " steps, analysed, the last", x.stepBound(count - 1) >= count);
            Check.due(count + " steps, analysed, the next", x.stepBound(count), -12);
        }
        // A transaction's id is none of a step.
        HolisticRta y = new HolisticRta(1, 16);
        for (int tx = 0; tx < 8; tx++) {
            y.addTransaction(10, 10);
        }
        y.addStep(3, 0, 1, 1);
        Check.due("the only step", y.stepBound(0), -2);
        Check.due("no step of that id", y.stepBound(3), -12);
    }

    private static void wrongIdBeforeNoBoundYet() {
        Check.says("step is not an existing id: ERR_NO_STEP. Otherwise, if the state is NOT_ANALYSED: NO_BOUND_YET.");
        HolisticRta x = Situation.NOT_ANALYSED.make();
        for (int id = -3; id <= 20; id++) {
            Check.due("stepBound(" + id + ")", x.stepBound(id), id >= 0 && id < 5 ? -2 : -12);
        }
        x.addTransaction(10, 10);
        for (int id = -3; id <= 20; id++) {
            Check.due("incomplete, stepBound(" + id + ")", x.stepBound(id), id >= 0 && id < 5 ? -2 : -12);
        }
    }

    private static void noBoundYet() {
        Check.says("Otherwise, if the state is NOT_ANALYSED: NO_BOUND_YET.");
        for (Situation where : new Situation[] {Situation.ADMITTED, Situation.REFUSED}) {
            for (String change : new String[] {"addStep(0, 0, 1, 99)", "addTransaction(10, 10)"}) {
                HolisticRta x = where.make();
                new Real(x).call(change);
                for (int s = 0; s < 5; s++) {
                    Check.due(where.name + ", after " + change + ", stepBound(" + s + ")", x.stepBound(s), -2);
                }
                x.analyse();
                boolean complete = change.startsWith("addS");
                Check.due(where.name + ", analysed after " + change, x.stepBound(3) == -2 == !complete);
            }
        }
        HolisticRta one = new HolisticRta(1, 4);
        one.addTransaction(10, 10);
        one.addStep(0, 0, 1, 1);
        one.run(100);
        one.setArrivals(0, 1, 1);
        Check.due("run and setArrivals bring no bound", one.stepBound(0), HolisticRta.NO_BOUND_YET);
    }

    private static void boundOrUnbounded() {
        Check.says("Otherwise (ADMITTED or REFUSED): the analysed bound of step, or UNBOUNDED if it is INF.");
        int[] admitted = {7, 19, 24, 3, 19};
        int[] refused = {7, 19, 24, 3, HolisticRta.UNBOUNDED};
        HolisticRta a = Situation.ADMITTED.make();
        HolisticRta r = Situation.REFUSED.make();
        for (int s = 0; s < 5; s++) {
            Check.due("admitted, stepBound(" + s + ")", a.stepBound(s), admitted[s]);
            Check.due("refused, stepBound(" + s + ")", r.stepBound(s), refused[s]);
        }
    }

    private static void finiteLiesWithinTheDeadline() {
        Check.says("A finite answer lies in 1..D(tx(step)).");
        for (int cost = 1; cost <= 20; cost++) {
            for (int deadline = 1; deadline <= 21; deadline++) {
                HolisticRta x = new HolisticRta(1, 4);
                x.addTransaction(200, deadline);
                x.addStep(0, 0, cost, 1);
                x.analyse();
                Check.due("cost " + cost + ", deadline " + deadline, x.stepBound(0), cost <= deadline ? cost : -1);
            }
        }
        // The next step of a chain adds its cost, and the deadline is one for the whole chain.
        for (int deadline = 19; deadline <= 41; deadline++) {
            HolisticRta x = new HolisticRta(2, 4);
            x.addTransaction(200, deadline);
            x.addStep(0, 0, 20, 1);
            x.addStep(0, 1, 20, 1);
            x.analyse();
            Check.due("deadline " + deadline + ", the head", x.stepBound(0), deadline >= 20 ? 20 : -1);
            Check.due("deadline " + deadline + ", the tail", x.stepBound(1), deadline >= 40 ? 40 : -1);
        }
    }

    private static void admittedMeansFinite() {
        Check.says("In state ADMITTED every existing step has a finite bound.");
        for (Situation where : Situation.ALL) {
            HolisticRta x = where.make();
            for (int s = 0; s < 16 && x.analysisState() == HolisticRta.ADMITTED && x.stepRemaining(s) != -12; s++) {
                Check.due(where.name + ", stepBound(" + s + ")", x.stepBound(s) >= 1);
            }
        }
    }

    private static void keptUntilTheConfigurationChanges() {
        Check.says("the analysed bound of step (kept over all calls that are no configuration change)");
        HolisticRta x = Situation.REFUSED.make();
        String analysis = Check.analysisView(x);
        for (String call : new String[] {"run(50)", "setArrivals(0, 9, 9)", "addStep(0, 0, 0, 0)", "addTransaction(0, 0)"}) {
            new Real(x).call(call);
            Check.same("after " + call, Check.analysisView(x), analysis);
        }
    }
}
