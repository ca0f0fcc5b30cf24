/** Promise 28: join. */
public final class Promise28JoinTest {
    private static final Due due = new Due("promise 28, join");

    public static void main(String[] args) {
        noSuchPlate();
        itIsInIt();
        all();
        comesBehind();
        afterLeaving();
        due.end();
    }

    private static void noSuchPlate() {
        due.says("A PLATE comes behind THE LINE: how many are in it. NONE; STATE: it is in it.");
        for (int p : Due.beyond(0, 7)) {
            due.unchanged("join(" + p + ")", Town::busy, x -> x.join(p), PlateHire.NONE);
        }
        due.unchanged("join(12)", Town::full, x -> x.join(12), PlateHire.NONE);
        due.unchanged("no plates", PlateHire::new, x -> x.join(0), PlateHire.NONE);
    }

    private static void itIsInIt() {
        due.says("A PLATE comes behind THE LINE: how many are in it. NONE; STATE: it is in it.");
        for (int p : new int[] {5, 2, 7, 6}) {
            due.unchanged("join(" + p + ")", Town::busy, x -> x.join(p), PlateHire.STATE);
        }
        for (int p = 0; p < 12; p++) {
            int q = p;
            due.unchanged("join(" + p + ") of a full line", Town::full, x -> x.join(q), PlateHire.STATE);
        }
        for (int p : new int[] {0, 1, 3, 4}) {
            due.is("join(" + p + ")", Town.busy().join(p), 5);
        }
    }

    private static void all() {
        due.says("THE LINE at the airport: PLATES one behind the other.");
        PlateHire x = Town.plates(0, 1, 2, 3, 0, 1, 2, 3, 0, 1, 2, 3);
        for (int p = 0; p < 12; p++) {
            due.is("join(" + p + ")", x.join(p), p + 1);
            due.is("count(7)", x.count(7), p + 1);
        }
        for (int p = 0; p < 12; p++) {
            due.is("call(0)", x.call(0), p);
        }
        due.is("call(0)", x.call(0), PlateHire.NONE);
    }

    private static void comesBehind() {
        due.says("A PLATE comes behind THE LINE: how many are in it.");
        PlateHire x = Town.plates(0, 0, 0);
        due.is("join(2)", x.join(2), 1);
        due.is("join(0)", x.join(0), 2);
        due.is("join(1)", x.join(1), 3);
        due.is("the first", x.call(0), 2);
        due.is("the second", x.call(0), 0);
        due.is("the third", x.call(0), 1);
    }

    /** The line goes round many times more than it has places. */
    private static void afterLeaving() {
        due.says("A PLATE comes behind THE LINE: how many are in it.");
        PlateHire x = Town.plates(0, 0, 0, 0, 0, 0, 0, 0, 0, 0, 0, 0);
        for (int p = 0; p < 12; p++) {
            x.join(p);
        }
        for (int i = 0; i < 60; i++) {
            due.is("call(0)", x.call(0), i % 12);
            due.is("join again", x.join(i % 12), 12);
        }
        for (int i = 0; i < 30; i++) {
            int p = (i * 5) % 12;
            due.is("leave(" + p + ")", x.leave(p) >= 0 ? 1 : 0, 1);
            due.is("join again", x.join(p), 12);
            due.is("it is the last", x.leave(p), 11);
            due.is("join again", x.join(p), 12);
        }
        due.is("it needs no driver and no ward", x.about(0, 6), PlateHire.NONE);
    }
}
