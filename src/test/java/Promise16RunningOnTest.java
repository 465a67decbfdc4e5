/** Promise 16: runningOn. */
public final class Promise16RunningOnTest {
    private static final int BUS = HolisticRta.BUS;
    private static final int[] NEVER = {
        Values.MIN, Values.MIN + 8, -65536, -65528, -256, -248, -8, -2, -1, 4, 5, 6, 7, 9, 10, 16, 256, 264, 65536, 65544,
        Values.MAX - 7, Values.MAX,
    };

    public static void main(String[] args) {
        wrongResources();
        firstAndLastProcessor();
        noneAfterAReset();
        noneBeforeTheFirstTick();
        mostRecentTick();
        noneWhenNothingWorked();
        stepThatHasJustEnded();
        runOfNoTicks();
        atTheHorizon();
        Ids.changesNothing("runningOn");
        Check.end("Promise16RunningOnTest");
    }

    private static void wrongResources() {
        Check.says("resource is neither in 0..processors-1 nor BUS: ERR_RESOURCE.");
        for (Situation where : Situation.ALL) {
            HolisticRta x = where.make();
            for (int r : NEVER) {
                Check.due(where.name + ", runningOn(" + r + ")", x.runningOn(r), -13);
            }
        }
    }

    private static void firstAndLastProcessor() {
        Check.says("resource is neither in 0..processors-1 nor BUS (the last that is, the first that is not)");
        int[][] rows = {{Values.MIN, 1}, {0, 1}, {1, 1}, {2, 2}, {3, 3}, {4, 4}, {5, 4}, {Values.MAX, 4}};
        for (int[] row : rows) {
            HolisticRta x = new HolisticRta(row[0], 8);
            String what = "new HolisticRta(" + row[0] + ", 8), ";
            Check.due(what + "below the first", x.runningOn(-1), -13);
            Check.due(what + "the first", x.runningOn(0), -1);
            Check.due(what + "the last", x.runningOn(row[1] - 1), -1);
            for (int r = row[1]; r < BUS; r++) {
                Check.due(what + "runningOn(" + r + ")", x.runningOn(r), -13);
            }
            Check.due(what + "the bus", x.runningOn(BUS), -1);
            Check.due(what + "beyond the bus", x.runningOn(BUS + 1), -13);
        }
    }

    private static void noneAfterAReset() {
        Check.says("It is NONE after a SIMULATION RESET ..");
        for (String how : new String[] {"setArrivals(0, 0, 0)", "addStep(0, 0, 1, 2)", "addTransaction(9, 9)"}) {
            HolisticRta x = new HolisticRta(4, 8);
            for (int tx = 0; tx < 5; tx++) {
                x.addTransaction(30, 30);
                x.addStep(tx, tx == 4 ? BUS : tx, 9, 1);
            }
            x.run(3);
            for (int tx = 0; tx < 5; tx++) {
                Check.due("before the reset", x.runningOn(tx == 4 ? BUS : tx), tx);
            }
            new Real(x).call(how);
            for (int tx = 0; tx < 5; tx++) {
                Check.due("after " + how, x.runningOn(tx == 4 ? BUS : tx), -1);
            }
        }
    }

    private static void noneBeforeTheFirstTick() {
        Check.says("It is NONE after a SIMULATION RESET (an arrival at 0 does not run before the tick at 0)");
        HolisticRta x = new HolisticRta(1, 8);
        Check.due("fresh", x.runningOn(0), -1);
        x.addTransaction(10, 10);
        Check.due("a transaction", x.runningOn(0), -1);
        x.addStep(0, 0, 3, 1);
        Check.due("a step", x.runningOn(0), -1);
        x.analyse();
        Check.due("analysed", x.runningOn(0), -1);
        x.run(1);
        Check.due("after the first tick", x.runningOn(0), 0);
    }

    private static void mostRecentTick() {
        Check.says("the last runner of that resource, meaning the step that worked on it in the most recent TICK");
        HolisticRta x = new HolisticRta(4, 8);
        x.addTransaction(10, 10);
        x.addTransaction(10, 10);
        x.addStep(0, 3, 2, 1);
        x.addStep(1, 1, 1, 1);
        x.addStep(1, BUS, 2, 1);
        int[][] rows = {{-1, 1, -1, 0, -1}, {-1, -1, -1, 0, 2}, {-1, -1, -1, -1, 2}, {-1, -1, -1, -1, -1}};
        for (int t = 0; t < 40; t++) {
            x.run(1);
            int[] due = rows[Math.min(3, t % 10)];
            for (int r = 0; r < 4; r++) {
                Check.due("tick " + t + ", runningOn(" + r + ")", x.runningOn(r), due[r]);
            }
            Check.due("tick " + t + ", runningOn(BUS)", x.runningOn(BUS), due[4]);
        }
        // Of a run of several ticks only the last one counts.
        x.run(11);
        Check.due("after tick 50, processor 1", x.runningOn(1), 1);
        x.run(2);
        Check.due("after tick 52, processor 1", x.runningOn(1), -1);
        Check.due("after tick 52, the bus", x.runningOn(BUS), 2);
    }

    private static void noneWhenNothingWorked() {
        Check.says(".. and when nothing worked on the resource in the most recent TICK.");
        HolisticRta x = new HolisticRta(2, 8);
        x.addTransaction(10, 10);
        x.addStep(0, 0, 2, 1);
        x.addStep(0, BUS, 2, 1);
        x.setArrivals(0, 3, 0);
        int[] processor = {-1, -1, -1, 0, 0, -1, -1, -1, -1, -1};
        int[] bus = {-1, -1, -1, -1, -1, 1, 1, -1, -1, -1};
        for (int t = 0; t < 10; t++) {
            x.run(1);
            Check.due("tick " + t + ", processor 0", x.runningOn(0), processor[t]);
            Check.due("tick " + t + ", the bus", x.runningOn(BUS), bus[t]);
            Check.due("tick " + t + ", processor 1, which has no step", x.runningOn(1), -1);
        }
    }

    private static void stepThatHasJustEnded() {
        Check.says("the step that worked on it in the most recent TICK (also if it ended there)");
        for (int resource : new int[] {0, BUS}) {
            HolisticRta x = new HolisticRta(1, 8);
            x.addTransaction(10, 10);
            x.addStep(0, resource, 1, 1);
            x.run(1);
            Check.due("on " + resource + ", it has ended", x.completedCount(0), 1);
            Check.due("on " + resource + ", it worked", x.runningOn(resource), 0);
            x.run(1);
            Check.due("on " + resource + ", one tick later", x.runningOn(resource), -1);
        }
    }

    private static void runOfNoTicks() {
        Check.says("in the most recent TICK (a run of no ticks has none)");
        HolisticRta x = new HolisticRta(1, 8);
        x.addTransaction(10, 10);
        x.addStep(0, 0, 2, 1);
        x.run(2);
        for (int ticks : new int[] {0, -1, Values.MIN}) {
            x.run(ticks);
            Check.due("after run(" + ticks + ")", x.runningOn(0), 0);
        }
        x.run(1);
        x.run(0);
        Check.due("idle, after run(0)", x.runningOn(0), -1);
    }

    private static void atTheHorizon() {
        Check.says("in the most recent TICK (the one before HORIZON)");
        HolisticRta x = Situation.AT_THE_HORIZON.make();
        Check.due("the frame", x.runningOn(BUS), 0);
        x.run(1000);
        Check.due("the frame, after a run that does nothing", x.runningOn(BUS), 0);
        // Step 2 works in five ticks of six, and 99999 is the fourth of its six.
        Check.due("the processor", x.runningOn(0), 2);
    }
}
