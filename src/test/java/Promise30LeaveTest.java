/** Promise 30: leave. */
public final class Promise30LeaveTest {
    private static final Due due = new Due("promise 30, leave");

    public static void main(String[] args) {
        noSuchPlate();
        itIsNotInIt();
        eachPlace();
        othersMoveUp();
        due.end();
    }

    private static void noSuchPlate() {
        due.says("A PLATE leaves THE LINE: its place in it (from 0 on). NONE; STATE: it is not in it.");
        for (int p : Due.beyond(0, 7)) {
            due.unchanged("leave(" + p + ")", Town::busy, x -> x.leave(p), PlateHire.NONE);
        }
        due.unchanged("leave(12)", Town::full, x -> x.leave(12), PlateHire.NONE);
        due.unchanged("no plates", PlateHire::new, x -> x.leave(0), PlateHire.NONE);
    }

    private static void itIsNotInIt() {
        due.says("A PLATE leaves THE LINE: its place in it (from 0 on). NONE; STATE: it is not in it.");
        for (int p : new int[] {0, 1, 3, 4}) {
            due.unchanged("leave(" + p + ")", Town::busy, x -> x.leave(p), PlateHire.STATE);
        }
        due.unchanged("nobody is in it", () -> Town.plates(0, 1), x -> x.leave(0), PlateHire.STATE);
        PlateHire x = Town.plates(0, 0);
        x.join(0);
        due.is("leave(0)", x.leave(0), 0);
        due.is("once more", x.leave(0), PlateHire.STATE);
        x.join(1);
        x.call(0);
        due.is("who was called", x.leave(1), PlateHire.STATE);
    }

    private static void eachPlace() {
        due.says("A PLATE leaves THE LINE: its place in it (from 0 on).");
        for (int p = 0; p < 12; p++) {
            PlateHire x = Town.plates(0, 1, 2, 3, 0, 1, 2, 3, 0, 1, 2, 3);
            for (int q = 11; q >= 0; q--) {
                x.join(q);
            }
            due.is("leave(" + p + ")", x.leave(p), 11 - p);
            due.is("count(7)", x.count(7), 11);
            for (int q = 11; q >= 0; q--) {
                if (q != p) {
                    due.is("the others in their order", x.call(0), q);
                }
            }
            due.is("none is left", x.call(0), PlateHire.NONE);
        }
    }

    private static void othersMoveUp() {
        due.says("A PLATE leaves THE LINE: its place in it (from 0 on).");
        PlateHire x = Town.plates(0, 1, 2, 3);
        x.join(3);
        x.join(2);
        x.join(1);
        due.is("leave(2)", x.leave(2), 1);
        due.is("leave(1)", x.leave(1), 1);
        due.is("join(2)", x.join(2), 2);
        due.is("leave(3)", x.leave(3), 0);
        due.is("leave(2)", x.leave(2), 0);
        due.is("count(7)", x.count(7), 0);
        due.is("from its beginning again", x.join(2), 1);
    }
}
