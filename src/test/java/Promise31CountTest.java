/** Promise 31: count. */
public final class Promise31CountTest {
    private static final Due due = new Due("promise 31, count");

    public static void main(String[] args) {
        noSuchWhat();
        atFirst();
        eachWhat();
        theMost();
        oneMoreEach();
        due.end();
    }

    private static void noSuchWhat() {
        due.says("9 bytes of THE TAPE, 10 RIDES that are kept. NONE.");
        for (int what : Due.beyond(0, 10)) {
            due.unchanged("count(" + what + ")", PlateHire::new, x -> x.count(what), PlateHire.NONE);
            due.unchanged("count(" + what + ")", Town::busy, x -> x.count(what), PlateHire.NONE);
            due.unchanged("count(" + what + ")", Town::full, x -> x.count(what), PlateHire.NONE);
        }
    }

    private static void atFirst() {
        due.says("Nothing is there; hour 0.");
        for (int what = 0; what <= 10; what++) {
            int w = what;
            due.unchanged("count(" + what + ")", PlateHire::new, x -> x.count(w), 0);
        }
    }

    private static void eachWhat() {
        due.says("0 PLATES, 1 DRIVERS, 2 hours that went by, 3 rides, 4 LOST ones, 5 cabs' hours without a ride,");
        due.says("6 LOANS, 7 PLATES in THE LINE, 8 fleets, 9 bytes of THE TAPE, 10 RIDES that are kept. NONE.");
        PlateHire x = Town.plates(0, 0, 0);
        x.driver(2);
        x.driver(2);
        x.drive(0, 1, 0);
        x.drive(1, 1, 1);
        x.stand(0, 0);
        x.stand(1, 4);
        x.ask(0, 0, 4);
        x.step(3);
        for (int i = 0; i < 4; i++) {
            x.loan(i % 2, 0, 1);
        }
        x.join(0);
        for (int i = 0; i < 5; i++) {
            x.swap(1);
        }
        x.feed(0, 7);
        // hour 0: a ride of plate 0 to 1, plate 1 roams to 0; 1: plate 1 rides to 2, plate 0 roams to 0;
        // hour 2: plate 0 rides to 3, plate 1 roams to 0; one of four is lost
        int[] counts = {3, 2, 3, 3, 1, 3, 4, 1, 5, 7, 3};
        for (int what = 0; what <= 10; what++) {
            due.is("count(" + what + ")", x.count(what), counts[what]);
        }
    }

    private static void theMost() {
        due.says("0 PLATES, 1 DRIVERS, 2 hours that went by, 3 rides");
        PlateHire x = Town.full();
        int[] whats = {0, 1, 2, 6, 7, 8, 9, 10};
        int[] most = {12, 16, 400, 30, 12, 6, 120, 300};
        for (int i = 0; i < whats.length; i++) {
            due.is("count(" + whats[i] + ")", x.count(whats[i]), most[i]);
        }
        due.is("rides go on behind the 300 that are kept", x.count(3) > 300 ? 1 : 0, 1);
        x = new PlateHire();
        for (int i = 0; i < 120; i++) {
            x.ask(i / 5, i % 5, 20);
        }
        Town.hours(x, 400);
        due.is("the most that can be lost", x.count(4), 398 * 100);
        x = Town.cabs(0, 8);
        for (int p = 0; p < 8; p++) {
            x.stand(p, p % 5);
        }
        Town.hours(x, 400);
        due.is("the most hours without a ride", x.count(5), 3200);
    }

    private static void oneMoreEach() {
        due.says("0 PLATES, 1 DRIVERS, 2 hours that went by, 3 rides, 4 LOST ones, 5 cabs' hours without a ride,");
        PlateHire x = Town.withDrivers(1, 2, 2);
        x.drive(0, 0, 0);
        x.drive(0, 1, 1);
        x.stand(0, 0);
        x.ask(1, 0, 1);
        x.step(1);
        due.is("an hour without a ride", x.count(5), 1);
        due.is("no ride", x.count(3), 0);
        x.step(1);
        due.is("a ride", x.count(3), 1);
        due.is("is kept", x.count(10), 1);
        due.is("no hour more without one", x.count(5), 1);
        due.is("hours", x.count(2), 2);
        due.is("none is lost", x.count(4), 0);
        x.stand(0, -1);
        x.step(1);
        due.is("nowhere: no hour more without one", x.count(5), 1);
        x.ask(3, 4, 1);
        x.step(2);
        due.is("none is lost yet", x.count(4), 0);
        x.step(1);
        due.is("one is lost", x.count(4), 1);
    }
}
