/** Promise 10: now. */
public final class Promise10NowTest {
    public static void main(String[] args) {
        zeroAfterAReset();
        oneMoreAfterEachTick();
        notAfterOtherCalls();
        notAfterNoTick();
        atTheHorizon();
        changesNothing();
        Check.end("Promise10NowTest");
    }

    private static void zeroAfterAReset() {
        Check.says("now() answers the simulated time now: 0 after a SIMULATION RESET ..");
        Check.due("fresh", new HolisticRta(1, 4).now(), 0);
        for (Situation where : Situation.ROOMY) {
            for (String how : new String[] {"setArrivals(0, 0, 0)", "setArrivals(0, 200, 200)", "addTransaction(10, 10)",
                "addStep(0, 0, 1, 77)"}) {
                HolisticRta x = where.make();
                Check.due(where.name + ", " + how, new Real(x).call(how) >= 0);
                Check.due(where.name + ", now() after " + how, x.now(), 0);
            }
        }
        HolisticRta full = Situation.ALL_FULL.make();
        full.setArrivals(7, 0, 0);
        Check.due("full, now() after setArrivals", full.now(), 0);
    }

    private static void oneMoreAfterEachTick() {
        Check.says(".. and one more after each TICK.");
        HolisticRta x = Check.busy();
        x.setArrivals(0, 0, 0);
        int time = 0;
        for (int ticks = 0; ticks <= 60; ticks++) {
            time += x.run(ticks);
            Check.due("after run(" + ticks + ")", x.now(), time);
        }
        Check.due("all of them", time, 60 * 61 / 2);
        for (int t = 1; t <= 300; t++) {
            x.run(1);
            Check.due("one tick", x.now(), time + t);
        }
        HolisticRta y = Situation.ALL_FULL.make();
        y.setArrivals(0, 0, 0);
        y.run(5000);
        Check.due("after a clamped run", y.now(), 1000);
    }

    private static void notAfterOtherCalls() {
        Check.says("one more after each TICK (and after nothing else)");
        for (Situation where : Situation.ALL) {
            HolisticRta x = where.make();
            int now = x.now();
            for (String call : new String[] {"analyse()", "addTransaction(0, 0)", "addStep(-1, 0, 1, 1)", "addStep(0, 9, 1, 1)",
                "setArrivals(-1, 0, 0)", "setArrivals(0, -1, 0)", "setArrivals(0, 0, 201)", "stepBound(0)", "runningOn(8)"}) {
                new Real(x).call(call);
                Check.due(where.name + ", now() after " + call, x.now(), now);
            }
        }
    }

    private static void notAfterNoTick() {
        Check.says("one more after each TICK (a run that does none)");
        for (Situation where : Situation.ALL) {
            HolisticRta x = where.make();
            int now = x.now();
            for (int ticks : new int[] {0, -1, -7, Values.MIN}) {
                x.run(ticks);
                Check.due(where.name + ", now() after run(" + ticks + ")", x.now(), now);
            }
        }
        HolisticRta incomplete = Situation.INCOMPLETE.make();
        incomplete.run(5);
        Check.due("now() after a refused run", incomplete.now(), 0);
    }

    private static void atTheHorizon() {
        Check.says("now() answers the simulated time now (up to HORIZON)");
        HolisticRta x = Situation.AT_THE_HORIZON.make();
        Check.due("at the horizon", x.now(), HolisticRta.HORIZON);
        x.run(1);
        Check.due("after one more run", x.now(), HolisticRta.HORIZON);
        x.setArrivals(0, 0, 0);
        for (int i = 1; i <= 100; i++) {
            x.run(1000);
            Check.due("after " + i + " runs", x.now(), 1000 * i);
        }
        x.run(1000);
        Check.due("at the horizon again", x.now(), 100000);
    }

    private static void changesNothing() {
        Check.says("It changes nothing.");
        for (Situation where : Situation.ALL) {
            where.unchangedBy(where.make().now(), "now()", "now()", "now()");
        }
    }
}
