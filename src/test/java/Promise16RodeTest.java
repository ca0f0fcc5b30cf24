/** Promise 16: rode. */
public final class Promise16RodeTest {
    private static final Due due = new Due("promise 16, rode");

    public static void main(String[] args) {
        noSuchRide();
        noSuchWhat();
        eachWhat();
        keptOnly();
        fareOfThatHour();
        due.end();
    }

    private static void noSuchRide() {
        due.says("Of a RIDE what 0 hour, 1 PLATE, 2 from, 3 to, 4 FARE. NONE.");
        int rides = Town.busy().count(10);
        for (int k : Due.beyond(0, rides - 1)) {
            for (int what = 0; what < 5; what++) {
                int w = what;
                due.unchanged("rode(" + k + ", " + what + ")", Town::busy, x -> x.rode(k, w), PlateHire.NONE);
            }
        }
        due.is("the last there is", Town.busy().rode(rides - 1, 0), 7);
        due.unchanged("no ride at all", PlateHire::new, x -> x.rode(0, 0), PlateHire.NONE);
        due.unchanged("ride 300", Town::full, x -> x.rode(300, 0), PlateHire.NONE);
        due.unchanged("neither", Town::full, x -> x.rode(300, 5), PlateHire.NONE);
    }

    private static void noSuchWhat() {
        due.says("Of a RIDE what 0 hour, 1 PLATE, 2 from, 3 to, 4 FARE. NONE.");
        for (int what : Due.beyond(0, 4)) {
            due.unchanged("rode(0, " + what + ")", Town::busy, x -> x.rode(0, what), PlateHire.NONE);
            due.unchanged("rode(299, " + what + ")", Town::full, x -> x.rode(299, what), PlateHire.NONE);
        }
    }

    private static void eachWhat() {
        due.says("Of a RIDE what 0 hour, 1 PLATE, 2 from, 3 to, 4 FARE. NONE.");
        PlateHire x = Town.cabs(0, 2);
        Town.law(x, "base 10;step 1;night 100;wait 1000");
        x.ask(0, 0, 2);
        x.ask(1, 1, 1);
        x.ask(1, 2, 2);
        x.ask(23, 3, 1);
        x.stand(0, 0);
        x.stand(1, 0);
        x.step(3);
        x.stand(0, -1);
        Town.hours(x, 20);
        x.stand(1, 3);
        x.step(3);
        int[][] rides = {{0, 0, 0, 1, 111}, {0, 1, 0, 2, 112}, {1, 0, 1, 2, 111}, {1, 1, 2, 3, 111},
            {2, 0, 2, 4, 1112}, {23, 1, 3, 4, 111}};
        for (int k = 0; k < rides.length; k++) {
            for (int what = 0; what < 5; what++) {
                due.is("rode(" + k + ", " + what + ")", x.rode(k, what), rides[k][what]);
            }
        }
    }

    private static void keptOnly() {
        due.says("RIDES are kept, the first 300.");
        PlateHire x = Town.cabs(0, 8);
        for (int p = 0; p < 8; p++) {
            x.stand(p, p % 5);
        }
        for (int i = 0; i < 120; i++) {
            x.ask(i / 5, i % 5, 20);
        }
        x.step(24);
        due.is("kept", x.count(10), 192);
        due.is("ride 191", x.rode(191, 0), 23);
        due.is("ride 192", x.rode(192, 0), PlateHire.NONE);
        x.step(13);
        due.is("kept", x.count(10), 296);
        x.step(1);
        due.is("kept", x.count(10), 300);
        due.is("rides", x.count(3), 304);
        due.is("hour of ride 299", x.rode(299, 0), 37);
        due.is("plate of ride 299", x.rode(299, 1), 3);
        due.is("ride 300", x.rode(300, 0), PlateHire.NONE);
        int[] last = new int[5];
        for (int what = 0; what < 5; what++) {
            last[what] = x.rode(299, what);
        }
        x.step(24);
        for (int what = 0; what < 5; what++) {
            due.is("ride 299 stays", x.rode(299, what), last[what]);
        }
        due.is("ride 0 stays", x.rode(0, 0), 0);
    }

    private static void fareOfThatHour() {
        due.says("the FARE (of this hour, with the hours waited)");
        PlateHire x = Town.cabs(0, 1);
        Town.law(x, "base 9999;base 9999;step 9999;ward 0 9999;ward 1 9999;wait 9999");
        x.ask(0, 0, 1);
        x.step(2);
        x.stand(0, 0);
        x.step(1);
        due.is("the fare then", x.rode(0, 4), 7 * 9999);
        Town.law(x, "base 1");
        due.is("another law later does not change it", x.rode(0, 4), 7 * 9999);
    }
}
