/** Promise 29: call. */
public final class Promise29CallTest {
    private static final Due due = new Due("promise 29, call");

    public static void main(String[] args) {
        whichRamp();
        none();
        badAheadOfNone();
        theFirst();
        theFirstRamp();
        due.end();
    }

    private static PlateHire line(int... plates) {
        PlateHire x = Town.plates(0, 1, 2, 3, 0, 1, 2, 3, 0, 1, 2, 3);
        for (int p : plates) {
            x.join(p);
        }
        return x;
    }

    private static void whichRamp() {
        due.says("The first PLATE of THE LINE (ramp 1: the first RAMP) leaves it: its number. BAD; NONE: none.");
        for (int ramp : Due.beyond(0, 1)) {
            due.unchanged("call(" + ramp + ")", Town::busy, x -> x.call(ramp), PlateHire.BAD);
            due.unchanged("call(" + ramp + ") of a full line", Town::full, x -> x.call(ramp), PlateHire.BAD);
        }
        due.is("call(0)", Town.busy().call(0), 5);
        due.is("call(1)", Town.busy().call(1), 2);
    }

    private static void none() {
        due.says("BAD; NONE: none.");
        due.unchanged("nobody is in it", () -> line(), x -> x.call(0), PlateHire.NONE);
        due.unchanged("nobody is in it", () -> line(), x -> x.call(1), PlateHire.NONE);
        due.unchanged("no ramp is in it", () -> line(0, 1, 3, 11), x -> x.call(1), PlateHire.NONE);
        due.unchanged("no plates", PlateHire::new, x -> x.call(0), PlateHire.NONE);
        PlateHire x = line(2);
        due.is("the only one", x.call(1), 2);
        due.is("none is left", x.call(1), PlateHire.NONE);
        due.is("none is left", x.call(0), PlateHire.NONE);
        due.is("count(7)", x.count(7), 0);
    }

    private static void badAheadOfNone() {
        due.says("BAD; NONE: none.");
        due.unchanged("call(2) of nobody", () -> line(), x -> x.call(2), PlateHire.BAD);
        due.unchanged("call(-1) of nobody", PlateHire::new, x -> x.call(-1), PlateHire.BAD);
    }

    private static void theFirst() {
        due.says("The first PLATE of THE LINE (ramp 1: the first RAMP) leaves it: its number.");
        PlateHire x = line(11, 2, 0, 7, 10);
        int[] order = {11, 2, 0, 7, 10};
        for (int i = 0; i < 5; i++) {
            due.is("count(7)", x.count(7), 5 - i);
            due.is("call(0)", x.call(0), order[i]);
            due.is("it has left", x.leave(order[i]), PlateHire.STATE);
        }
        due.is("and may join again", x.join(11), 1);
    }

    private static void theFirstRamp() {
        due.says("(ramp 1: the first RAMP) leaves it: its number");
        PlateHire x = line(1, 10, 0, 2, 4, 6);
        due.is("the first ramp", x.call(1), 10);
        due.is("the next ramp", x.call(1), 2);
        due.is("the last ramp", x.call(1), 6);
        due.is("no ramp any more", x.call(1), PlateHire.NONE);
        due.is("the others are there", x.count(7), 3);
        due.is("in their order", x.call(0), 1);
        due.is("in their order", x.call(0), 0);
        due.is("in their order", x.call(0), 4);
        for (int place = 0; place < 12; place++) {
            PlateHire y = Town.plates(0, 1, 3, 0, 1, 3, 0, 1, 3, 0, 1);
            y.plate(2, 0, 0, 0);
            for (int i = 0; i < 11; i++) {
                if (i == place) {
                    y.join(11);
                }
                y.join(i);
            }
            if (place == 11) {
                y.join(11);
            }
            due.is("a ramp at place " + place, y.call(1), 11);
            for (int i = 0; i < 11; i++) {
                due.is("then", y.call(0), i);
            }
        }
    }
}
