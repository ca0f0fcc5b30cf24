/** Promise 3: driver. */
public final class Promise03DriverTest {
    private static final Due due = new Due("promise 3, driver");

    public static void main(String[] args) {
        numbers();
        wishes();
        full();
        badAheadOfFull();
        anewDriver();
        due.end();
    }

    private static void numbers() {
        due.says("DRIVERS are numbered from 0 on, 16 at most");
        PlateHire x = new PlateHire();
        for (int d = 0; d < 16; d++) {
            due.is("no driver " + d + " yet", x.driven(d, 0), PlateHire.NONE);
            due.is("driver " + d, x.driver(d % 3), d);
            due.is("count(1)", x.count(1), d + 1);
        }
        for (int d = 0; d < 16; d++) {
            due.is("wish of " + d, x.driven(d, 0), d % 3);
        }
        due.is("driver 16", x.driven(16, 0), PlateHire.NONE);
    }

    private static void wishes() {
        due.says("each with a WISH: 0 day, 1 night, 2 any");
        for (int wish : Due.beyond(0, 2)) {
            due.unchanged("driver(" + wish + ")", Town::busy, x -> x.driver(wish), PlateHire.BAD);
            due.unchanged("the first, driver(" + wish + ")", PlateHire::new, x -> x.driver(wish), PlateHire.BAD);
        }
        for (int wish = 0; wish <= 2; wish++) {
            PlateHire x = new PlateHire();
            due.is("driver(" + wish + ")", x.driver(wish), 0);
            due.is("its wish", x.driven(0, 0), wish);
        }
    }

    private static void full() {
        due.says("A DRIVER more: its number. BAD; FULL.");
        for (int wish = 0; wish <= 2; wish++) {
            int w = wish;
            due.unchanged("a 17th driver", Town::full, x -> x.driver(w), PlateHire.FULL);
        }
        PlateHire x = Town.withDrivers(0, 0, 0, 0, 0, 0, 0, 0, 0, 0, 0, 0, 0, 0, 0, 0);
        due.is("the 16th", x.driver(2), 15);
        due.is("a 17th", x.driver(2), PlateHire.FULL);
        due.is("count(1)", x.count(1), 16);
    }

    private static void badAheadOfFull() {
        due.says("REFUSALS, of several the first one told");
        due.unchanged("a wrong 17th driver", Town::full, x -> x.driver(3), PlateHire.BAD);
        due.unchanged("a wrong 17th driver", Town::full, x -> x.driver(-1), PlateHire.BAD);
    }

    private static void anewDriver() {
        due.says("A DRIVER more: its number. BAD; FULL.");
        PlateHire x = Town.busy();
        int shifts = x.fill();
        due.is("two were free", shifts > 0 ? 1 : 0, 1);
        due.is("the twelfth", x.driver(1), 11);
        due.is("hours", x.driven(11, 1), 0);
        due.is("earned", x.driven(11, 2), 0);
        for (int p = 0; p < 8; p++) {
            due.is("day of " + p + " is not his", x.about(p, 2) == 11 ? 1 : 0, 0);
            due.is("night of " + p + " is not his", x.about(p, 3) == 11 ? 1 : 0, 0);
        }
    }
}
