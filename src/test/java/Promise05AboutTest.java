/** Promise 5: about. */
public final class Promise05AboutTest {
    private static final Due due = new Due("promise 5, about");

    public static void main(String[] args) {
        noSuchPlate();
        noSuchWhat();
        atFirst();
        eachWhat();
        hoursStillDue();
        hoursNeedARun();
        due.end();
    }

    private static void noSuchPlate() {
        due.says("7 HOURS that must still be driven. NONE.");
        for (int p : Due.beyond(0, 7)) {
            for (int what = 0; what < 8; what++) {
                int w = what;
                due.unchanged("about(" + p + ", " + what + ")", Town::busy, x -> x.about(p, w), PlateHire.NONE);
            }
        }
        due.unchanged("about(12, 0)", Town::full, x -> x.about(12, 0), PlateHire.NONE);
        due.unchanged("neither", Town::full, x -> x.about(12, 8), PlateHire.NONE);
    }

    private static void noSuchWhat() {
        due.says("Of a PLATE what 0 KIND, 1 OWNER, 2 day's, 3 night's DRIVER (NONE), 4 HOURS, 5 what it took,");
        for (int what : Due.beyond(0, 7)) {
            due.unchanged("about(0, " + what + ")", Town::busy, x -> x.about(0, what), PlateHire.NONE);
            due.unchanged("about(7, " + what + ")", Town::busy, x -> x.about(7, what), PlateHire.NONE);
        }
    }

    private static void atFirst() {
        due.says("6 where it stands (NONE)");
        PlateHire x = new PlateHire();
        x.plate(2, 5, 1, 1);
        int[] first = {2, 5, -1, -1, 0, 0, -1, 0};
        for (int what = 0; what < 8; what++) {
            due.is("about(0, " + what + ")", x.about(0, what), first[what]);
        }
        for (int ward = 0; ward < 5; ward++) {
            x.stand(0, ward);
            due.is("where it stands", x.about(0, 6), ward);
        }
        x.stand(0, -1);
        due.is("nowhere again", x.about(0, 6), PlateHire.NONE);
    }

    private static void eachWhat() {
        due.says("Of a PLATE what 0 KIND, 1 OWNER, 2 day's, 3 night's DRIVER (NONE), 4 HOURS, 5 what it took,");
        PlateHire x = Town.plates(0, 0, 0, 0, 0, 0, 0, 0, 0, 0, 0);
        x.plate(1, 4, 0, 0);
        for (int d = 0; d < 16; d++) {
            x.driver(2);
        }
        x.drive(11, 0, 15);
        x.drive(11, 1, 0);
        x.stand(11, 3);
        x.ask(0, 3, 1);
        Town.law(x, "base 7");
        x.step(2);
        int[] then = {1, 4, 15, 0, 2, 7, 4, 3};
        for (int what = 0; what < 8; what++) {
            due.is("about(11, " + what + ")", x.about(11, what), then[what]);
        }
        for (int what = 4; what < 6; what++) {
            due.is("about(10, " + what + ")", x.about(10, what), 0);
        }
    }

    private static void hoursStillDue() {
        due.says("7 HOURS that must still be driven");
        for (int kind = 0; kind < 4; kind++) {
            PlateHire x = Town.cabs(kind, 1);
            x.stand(0, 2);
            for (int driven = 0; driven <= 7; driven++) {
                due.is("hours of kind " + kind, x.about(0, 4), driven);
                due.is("still due of kind " + kind + " behind " + driven, x.about(0, 7),
                    kind == 1 ? Math.max(0, 5 - driven) : 0);
                x.step(1);
            }
            Town.hours(x, 392);
            due.is("all hours of kind " + kind, x.about(0, 4), 400);
            due.is("never below 0", x.about(0, 7), 0);
        }
    }

    private static void hoursNeedARun() {
        due.says("1 OWNED: 5 HOURS must be driven by it");
        PlateHire x = Town.withDrivers(0, 0);
        x.plate(1, 0, 0, 0);
        x.step(1);
        due.is("no driver, and nowhere", x.about(0, 7), 5);
        x.stand(0, 0);
        x.step(1);
        due.is("no driver", x.about(0, 7), 5);
        x.stand(0, -1);
        x.drive(0, 1, 0);
        x.step(1);
        due.is("nowhere", x.about(0, 7), 5);
        x.stand(0, 0);
        x.step(1);
        due.is("hour 3 by night", x.about(0, 7), 4);
        x.step(12);
        due.is("no driver by day", x.about(0, 7), 4);
        x.step(4);
        due.is("four hours more by night", x.about(0, 7), 0);
    }
}
