/** Promise 10: now. */
public final class Promise10NowTest {
    public static void main(String[] args) {
        HolisticRta x = new HolisticRta(1, 8);
        Check.due("fresh", x.now(), 0);
        x.run(5);
        Check.due("after a refused run", x.now(), 0);
        x.addTransaction(10, 10);
        x.addStep(0, 0, 3, 1);
        for (int t = 1; t <= 30; t++) {
            x.run(1);
            Check.due("after tick " + t, x.now(), t);
        }
        x.run(0);
        x.run(-7);
        Check.due("after no tick", x.now(), 30);
        x.analyse();
        x.addTransaction(0, 0);
        x.addStep(0, 0, 3, 1);
        x.setArrivals(0, -1, 0);
        Check.due("after analyse and refused calls", x.now(), 30);
        x.run(2000);
        Check.due("after a clamped run", x.now(), 1030);
        x.setArrivals(0, 0, 0);
        Check.due("after setArrivals", x.now(), 0);
        x.run(4);
        x.addStep(0, 0, 3, 2);
        Check.due("after addStep", x.now(), 0);
        x.run(4);
        Check.due("again", x.now(), 4);
        x.addTransaction(10, 10);
        Check.due("after addTransaction", x.now(), 0);
        HolisticRta busy = Check.busy();
        String before = Check.view(busy);
        busy.now();
        busy.now();
        Check.same("after the getter", Check.view(busy), before);
        Check.end("Promise10NowTest");
    }
}
