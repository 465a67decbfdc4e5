import java.util.Arrays;

/**
 * Promise 5: that the bounds are the LEAST vector with F(R) = R. For small systems every vector
 * is tried, and the least of those that solve the equations is compared with the answers.
 */
public final class LeastBoundTest {
    private static long seed = 20261115;
    private static int several = 0;
    private static int unbounded = 0;

    private static int pick(int least, int most) {
        seed = seed * 6364136223846793005L + 1442695040888963407L;
        return least + (int) ((seed >>> 33) % (most - least + 1));
    }

    public static void main(String[] args) {
        for (int system = 0; system < 1500 && Check.wrongAnswers() < 5; system++) {
            oneSystem(system);
        }
        // Without such systems the test would not tell the least solution from another one.
        Check.due("there are systems with more than one solution", several > 20);
        Check.due("there are systems with an infinite bound", unbounded > 20);
        Check.end("LeastBoundTest");
    }

    private static void oneSystem(int system) {
        HolisticRta x = new HolisticRta(2, 4);
        Model m = new Model(2, 4);
        StringBuilder text = new StringBuilder("system " + system + ":");
        int txs = pick(1, 3);
        for (int tx = 0; tx < txs; tx++) {
            int period = pick(3, 9);
            int deadline = pick(3, period);
            text.append(" tx ").append(period).append(' ').append(deadline);
            x.addTransaction(period, deadline);
            m.addTransaction(period, deadline);
        }
        for (int s = 0; s < 4; s++) {
            int tx = s < txs ? s : pick(0, txs - 1);
            int resource = pick(0, 2) == 0 ? HolisticRta.BUS : pick(0, 1);
            int cost = pick(1, 2);
            int priority = 1 + (pick(0, 24) * 4 + s);
            text.append(" step ").append(tx).append(' ').append(resource).append(' ').append(cost)
                .append(' ').append(priority);
            x.addStep(tx, resource, cost, priority);
            m.addStep(tx, resource, cost, priority);
        }
        long[] least = leastSolution(m);
        int state = x.analyse();
        boolean finite = true;
        for (int s = 0; s < 4; s++) {
            boolean inf = least[s] == Model.INF;
            finite = finite && !inf;
            Check.due(text + ", stepBound(" + s + ")", x.stepBound(s), inf ? -1 : least[s]);
        }
        Check.due(text + ", analyse()", state, finite ? 1 : 2);
        unbounded += finite ? 0 : 1;
    }

    private static long[] leastSolution(Model m) {
        long[] most = new long[4];
        for (int s = 0; s < 4; s++) {
            most[s] = m.steps.get(s).tx.deadline + 1;
        }
        long[] least = null;
        long[] code = new long[4];
        boolean more = true;
        int solutions = 0;
        while (more) {
            long[] r = new long[4];
            for (int s = 0; s < 4; s++) {
                r[s] = code[s] == most[s] ? Model.INF : code[s];
            }
            if (Arrays.equals(m.apply(r), r)) {
                solutions++;
                for (int s = 0; least != null && s < 4; s++) {
                    r[s] = Math.min(r[s], least[s]);
                }
                least = r;
            }
            int place = 0;
            while (place < 4 && code[place] == most[place]) {
                code[place++] = 0;
            }
            more = place < 4;
            if (more) {
                code[place]++;
            }
        }
        several += solutions > 1 ? 1 : 0;
        Check.due("the componentwise least is a solution itself", Arrays.equals(m.apply(least), least));
        return least;
    }
}
