/**
 * Promises 1 to 16 at once: long made-up runs of calls, each answer compared with the model's.
 * The numbers come from a fixed recurrence, so that every run of the test is the same.
 */
public final class ModelRunsTest {
    private static long seed;

    private static int pick(int least, int most) {
        seed = seed * 6364136223846793005L + 1442695040888963407L;
        return least + (int) ((seed >>> 33) % (most - least + 1));
    }

    public static void main(String[] args) {
        for (int run = 0; run < 6000 && Check.wrongAnswers() < 5; run++) {
            seed = run;
            pick(0, 1);
            oneRun(run);
        }
        Check.end("ModelRunsTest");
    }

    private static void oneRun(int run) {
        int processors = pick(-1, 5);
        int capacity = pick(0, 3) == 0 ? pick(-1, 18) : 16;
        // Short periods crowd the system, long ones leave room for bounds that are finite.
        int longest = new int[] {6, 30, 200}[pick(0, 2)];
        int dearest = new int[] {2, 6, 20}[pick(0, 2)];
        HolisticRta x = new HolisticRta(processors, capacity);
        Model m = new Model(processors, capacity);
        String name = "run " + run;
        Check.same(name + " at the start", Check.view(x), Check.view(m));
        int calls = pick(5, 60);
        for (int call = 0; call < calls && Check.wrongAnswers() < 5; call++) {
            String made = oneCall(name + " call " + call, x, m, longest, dearest);
            Check.same(made + ", seen after it", Check.view(x), Check.view(m));
        }
    }

    private static String oneCall(String name, HolisticRta x, Model m, int longest, int dearest) {
        String what;
        int kind = pick(0, 19);
        if (kind < 3) {
            int period = pick(0, 19) == 0 ? pick(-1, 202) : pick(1, longest);
            int deadline = pick(0, 9) == 0 ? pick(-1, 202) : Math.max(1, period - pick(0, period < 1 ? 0 : period / 4));
            what = name + " addTransaction(" + period + ", " + deadline + ")";
            Check.due(what, x.addTransaction(period, deadline), m.addTransaction(period, deadline));
        } else if (kind < 12) {
            int tx = pick(0, 19) == 0 ? pick(-1, 9) : pick(0, Math.max(0, m.txs.size() - 1));
            int resource = pick(0, 14) == 0 ? pick(-1, 9) : pick(0, 2) == 0 ? 8 : pick(0, m.processors - 1);
            int cost = pick(0, 19) == 0 ? pick(-1, 22) : pick(1, dearest);
            int priority = pick(0, 19) == 0 ? pick(-1, 102) : pick(1, 30);
            what = name + " addStep(" + tx + ", " + resource + ", " + cost + ", " + priority + ")";
            Check.due(what, x.addStep(tx, resource, cost, priority), m.addStep(tx, resource, cost, priority));
        } else if (kind < 14) {
            int tx = pick(0, 9) == 0 ? pick(-1, 9) : pick(0, Math.max(0, m.txs.size() - 1));
            int offset = pick(0, 9) == 0 ? pick(-2, 202) : pick(0, 12);
            int gap = pick(0, 9) == 0 ? pick(-2, 202) : pick(0, 9);
            what = name + " setArrivals(" + tx + ", " + offset + ", " + gap + ")";
            Check.due(what, x.setArrivals(tx, offset, gap), m.setArrivals(tx, offset, gap));
        } else if (kind < 17) {
            what = name + " analyse()";
            Check.due(what, x.analyse(), m.analyse());
        } else {
            int ticks = pick(0, 3) == 0 ? pick(-5, 1100) : pick(0, 25);
            what = name + " run(" + ticks + ")";
            Check.due(what, x.run(ticks), m.run(ticks));
        }
        return what;
    }
}
