/** Promise 12: stand. */
public final class Promise12StandTest {
    private static final Due due = new Due("promise 12, stand");

    public static void main(String[] args) {
        noSuchPlate();
        noSuchWard();
        whereItDid();
        outer();
        otherKinds();
        noneSuchAheadOfState();
        manyInOneWard();
        due.end();
    }

    private static void noSuchPlate() {
        due.says("-5: there is none such; STATE: it may not.");
        for (int p : Due.beyond(0, 7)) {
            due.unchanged("stand(" + p + ", 0)", Town::busy, x -> x.stand(p, 0), -5);
            due.unchanged("stand(" + p + ", -1)", Town::busy, x -> x.stand(p, -1), -5);
        }
        due.unchanged("stand(12, 2)", Town::full, x -> x.stand(12, 2), -5);
    }

    private static void noSuchWard() {
        due.says("A PLATE stands in a WARD (-1: nowhere): where it did (NONE).");
        for (int ward : Due.beyond(-1, 4)) {
            due.unchanged("stand(0, " + ward + ")", Town::busy, x -> x.stand(0, ward), -5);
            due.unchanged("stand(7, " + ward + ")", Town::busy, x -> x.stand(7, ward), -5);
        }
        due.unchanged("neither", Town::busy, x -> x.stand(8, 5), -5);
    }

    private static void whereItDid() {
        due.says("A PLATE stands in a WARD (-1: nowhere): where it did (NONE).");
        PlateHire x = Town.plates(0, 0);
        int[] wards = {-1, 0, 4, 4, 3, 2, 1, 0, -1, -1, 2};
        int was = -1;
        for (int ward : wards) {
            due.is("stand(1, " + ward + ")", x.stand(1, ward), was);
            due.is("where it stands", x.about(1, 6), ward);
            due.is("the other one", x.about(0, 6), PlateHire.NONE);
            was = ward;
        }
    }

    private static void outer() {
        due.says("3 OUTER: it may stand in WARDS 2, 3, 4 only.");
        due.unchanged("outer in 0", Town::busy, x -> x.stand(3, 0), PlateHire.STATE);
        due.unchanged("outer in 1", Town::busy, x -> x.stand(3, 1), PlateHire.STATE);
        due.unchanged("another outer in 1", Town::busy, x -> x.stand(7, 1), PlateHire.STATE);
        due.unchanged("the last one in 1", Town::full, x -> x.stand(11, 1), PlateHire.STATE);
        PlateHire x = Town.plates(3);
        due.is("in 1 from nowhere", x.stand(0, 1), PlateHire.STATE);
        due.is("in 2", x.stand(0, 2), PlateHire.NONE);
        due.is("in 3", x.stand(0, 3), 2);
        due.is("in 4", x.stand(0, 4), 3);
        due.is("in 0", x.stand(0, 0), PlateHire.STATE);
        due.is("it is in 4 still", x.about(0, 6), 4);
        due.is("nowhere", x.stand(0, -1), 4);
        due.is("where it stands", x.about(0, 6), PlateHire.NONE);
    }

    private static void otherKinds() {
        due.says("3 OUTER: it may stand in WARDS 2, 3, 4 only.");
        for (int kind = 0; kind < 3; kind++) {
            PlateHire x = Town.plates(kind);
            for (int ward = 0; ward < 5; ward++) {
                due.is("kind " + kind + " in " + ward, x.stand(0, ward), ward - 1);
            }
        }
    }

    private static void noneSuchAheadOfState() {
        due.says("-5: there is none such; STATE: it may not.");
        due.unchanged("outer in 5", Town::busy, x -> x.stand(3, 5), -5);
        due.unchanged("outer in -2", Town::busy, x -> x.stand(3, -2), -5);
        due.unchanged("no plate, in 0", Town::busy, x -> x.stand(11, 0), -5);
    }

    private static void manyInOneWard() {
        due.says("A PLATE stands in a WARD (-1: nowhere): where it did (NONE).");
        PlateHire x = Town.plates(0, 1, 2, 3, 0, 1, 2, 3, 0, 1, 2, 3);
        for (int p = 0; p < 12; p++) {
            due.is("stand(" + p + ", 2)", x.stand(p, 2), PlateHire.NONE);
        }
        for (int p = 0; p < 12; p++) {
            due.is("where it stands", x.about(p, 6), 2);
        }
    }
}
