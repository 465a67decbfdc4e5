/** What the getters that take the id of a transaction or of a step have in common. */
final class Ids {
    private static final int[] NEVER = {
        Values.MIN, Values.MIN + 1, -65536, -65535, -256, -255, -16, -8, -2, -1, 16, 17, 256, 257, 65536, 65537,
        Values.MAX - 1, Values.MAX,
    };

    private Ids() {
    }

    /** ERR_NO_TX for ids that do not exist, and what a transaction answers before anything has happened. */
    static void transactions(String getter, int atFirst) {
        Check.says("tx is not an existing id: ERR_NO_TX.");
        for (Situation where : Situation.ALL) {
            Rta x = new Real(where.make());
            never(where, getter, x, -11);
            Check.due(where.name + ", " + getter + "(8)", x.call(getter + "(8)"), -11);
        }
        Check.says("tx is not an existing id (the first that does not exist yet, the last that does)");
        Rta x = new Real(new HolisticRta(1, 16));
        for (int count = 0; count <= 8; count++) {
            for (int id = 0; id <= 16; id++) {
                int due = id < count ? atFirst : -11;
                Check.due(count + " exist, " + getter + "(" + id + ")", x.call(getter + "(" + id + ")"), due);
            }
            x.addTransaction(0, 0);
            x.addTransaction(10, 10);
        }
    }

    /** ERR_NO_STEP for ids that do not exist, and what a step answers before anything has happened. */
    static void steps(String getter, int atFirst) {
        Check.says("step is not an existing id: ERR_NO_STEP.");
        for (Situation where : Situation.ALL) {
            never(where, getter, new Real(where.make()), -12);
        }
        Check.says("step is not an existing id (the first that does not exist yet, the last that does)");
        Rta x = new Real(new HolisticRta(1, 16));
        x.addTransaction(200, 200);
        x.addTransaction(200, 200);
        for (int count = 0; count <= 16; count++) {
            for (int id = 0; id <= 20; id++) {
                int due = id < count ? atFirst : -12;
                Check.due(count + " exist, " + getter + "(" + id + ")", x.call(getter + "(" + id + ")"), due);
            }
            x.addStep(count % 2, 0, 0, 1);
            x.addStep(count % 2, 0, 1, count + 1);
        }
    }

    private static void never(Situation where, String getter, Rta x, int due) {
        for (int id : NEVER) {
            Check.due(where.name + ", " + getter + "(" + id + ")", x.call(getter + "(" + id + ")"), due);
        }
    }

    static void changesNothing(String getter) {
        Check.says("The call changes nothing.");
        for (Situation where : Situation.ALL) {
            where.unchangedBy(getter, x -> {
                for (int id : Values.ALL) {
                    String call = getter + "(" + id + ")";
                    int answer = x.call(call);
                    Check.due(where.name + ", " + call + " again", x.call(call), answer);
                }
            });
        }
    }
}
