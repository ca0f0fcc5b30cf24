/** Promise 6: driven. */
public final class Promise06DrivenTest {
    private static final Due due = new Due("promise 6, driven");

    public static void main(String[] args) {
        noSuchDriver();
        noSuchWhat();
        atFirst();
        hoursAndEarned();
        onTwoPlates();
        theLastDriver();
        due.end();
    }

    private static void noSuchDriver() {
        due.says("Of a DRIVER what 0 WISH, 1 HOURS, 2 what was earned. NONE.");
        for (int d : Due.beyond(0, 10)) {
            for (int what = 0; what < 3; what++) {
                int w = what;
                due.unchanged("driven(" + d + ", " + what + ")", Town::busy, x -> x.driven(d, w), PlateHire.NONE);
            }
        }
        due.unchanged("driven(16, 0)", Town::full, x -> x.driven(16, 0), PlateHire.NONE);
        due.unchanged("neither", Town::full, x -> x.driven(16, 3), PlateHire.NONE);
        due.is("plates are no drivers", Town.plates(0, 0).driven(0, 0), PlateHire.NONE);
    }

    private static void noSuchWhat() {
        due.says("Of a DRIVER what 0 WISH, 1 HOURS, 2 what was earned. NONE.");
        for (int what : Due.beyond(0, 2)) {
            due.unchanged("driven(0, " + what + ")", Town::busy, x -> x.driven(0, what), PlateHire.NONE);
            due.unchanged("driven(10, " + what + ")", Town::busy, x -> x.driven(10, what), PlateHire.NONE);
        }
    }

    private static void atFirst() {
        due.says("Of a DRIVER what 0 WISH, 1 HOURS, 2 what was earned. NONE.");
        PlateHire x = Town.withDrivers(0, 1);
        due.is("wish", x.driven(0, 0), 1);
        due.is("hours", x.driven(0, 1), 0);
        due.is("earned", x.driven(0, 2), 0);
    }

    private static void hoursAndEarned() {
        due.says("HOURS of the PLATE, and of its DRIVER, are 1 more");
        PlateHire x = Town.cabs(0, 1);
        x.stand(0, 1);
        x.ask(3, 1, 1);
        x.ask(4, 2, 1);
        Town.law(x, "base 9;night 100");
        x.step(3);
        due.is("night's hours", x.driven(1, 1), 3);
        due.is("nothing is earned yet", x.driven(1, 2), 0);
        x.step(1);
        due.is("night's hours", x.driven(1, 1), 4);
        due.is("night's driver earned", x.driven(1, 2), 109);
        due.is("day's driver has none", x.driven(0, 1), 0);
        x.step(1);
        due.is("night's hours", x.driven(1, 1), 4);
        due.is("day's hours", x.driven(0, 1), 1);
        due.is("day's driver earned", x.driven(0, 2), 109);
        due.is("the plate took both", x.about(0, 5), 218);
    }

    private static void onTwoPlates() {
        due.says("the FARE (of this hour, with the hours waited) is taken by the PLATE and earned by the DRIVER");
        PlateHire x = Town.withDrivers(2, 2);
        Town.law(x, "base 5");
        x.ask(0, 0, 1);
        x.ask(1, 0, 1);
        for (int p = 0; p < 2; p++) {
            x.drive(p, 1, 0);
            x.stand(p, 0);
            x.step(1);
        }
        due.is("hours on both", x.driven(0, 1), 2);
        due.is("earned on both", x.driven(0, 2), 10);
        due.is("plate 0 took", x.about(0, 5), 5);
        due.is("plate 1 took", x.about(1, 5), 5);
        x.drive(1, 1, -1);
        due.is("hours are kept", x.driven(0, 1), 2);
        due.is("so is what was earned", x.driven(0, 2), 10);
    }

    private static void theLastDriver() {
        due.says("DRIVERS are numbered from 0 on, 16 at most");
        PlateHire x = Town.withDrivers(1, 0, 0, 0, 0, 0, 0, 0, 0, 0, 0, 0, 0, 0, 0, 0, 2);
        Town.law(x, "base 9999;wait 9999");
        x.drive(0, 1, 15);
        x.stand(0, 0);
        x.ask(0, 0, 1);
        x.step(1);
        due.is("wish", x.driven(15, 0), 2);
        due.is("hours", x.driven(15, 1), 1);
        due.is("earned", x.driven(15, 2), 9999);
        for (int d = 0; d < 15; d++) {
            due.is("hours of " + d, x.driven(d, 1), 0);
        }
    }
}
