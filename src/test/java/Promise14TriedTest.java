/** Promise 14: tried. */
public final class Promise14TriedTest {
    private static final Due due = new Due("promise 14, tried");

    public static void main(String[] args) {
        noSuchWhat();
        howManyLess();
        howManyHours();
        noneAheadOfBad();
        allIsAsBefore();
        likeStepping();
        theLastPlates();
        acrossMidnight();
        nobodyRuns();
        beyondTheLastHour();
        allPlates();
        due.end();
    }

    private static void noSuchWhat() {
        due.says("what 0 rides, 1 LOST ones, 2 cabs' hours without a ride, 3 what PLATES took. NONE: what; BAD.");
        for (int what : Due.beyond(0, 3)) {
            due.unchanged("tried(0, 1, " + what + ")", Town::busy, x -> x.tried(0, 1, what), PlateHire.NONE);
        }
    }

    private static void howManyLess() {
        due.says("TRIED without the last PLATES, so many");
        for (int less : Due.beyond(0, 8)) {
            due.unchanged("tried(" + less + ", 1, 0)", Town::busy, x -> x.tried(less, 1, 0), PlateHire.BAD);
        }
        due.unchanged("13 of 12", Town::full, x -> x.tried(13, 1, 0), PlateHire.BAD);
        due.unchanged("1 of none", PlateHire::new, x -> x.tried(1, 1, 0), PlateHire.BAD);
        due.unchanged("none of none", PlateHire::new, x -> x.tried(0, 1, 0), 0);
        due.unchanged("all of 8", Town::busy, x -> x.tried(8, 40, 0), 0);
        due.unchanged("all of 12", Town::full, x -> x.tried(12, 40, 3), 0);
    }

    private static void howManyHours() {
        due.says("TRIED: n hours (1 .. 40) go by with the last PLATES, so many, standing nowhere");
        for (int n : Due.beyond(1, 40)) {
            due.unchanged("tried(0, " + n + ", 0)", Town::busy, x -> x.tried(0, n, 0), PlateHire.BAD);
        }
        for (int n = 1; n <= 40; n++) {
            PlateHire x = Town.cabs(0, 2);
            x.stand(0, 0);
            x.stand(1, 4);
            due.is("hours without a ride in " + n, x.tried(0, n, 2), 2 * n);
        }
    }

    private static void noneAheadOfBad() {
        due.says("3 what PLATES took. NONE: what; BAD.");
        due.unchanged("what and less", Town::busy, x -> x.tried(9, 1, 4), PlateHire.NONE);
        due.unchanged("what and n", Town::busy, x -> x.tried(0, 41, -1), PlateHire.NONE);
        due.unchanged("all", Town::busy, x -> x.tried(-1, 0, 4), PlateHire.NONE);
    }

    private static void allIsAsBefore() {
        due.says("all is as before then (and no RIDE is kept)");
        for (int less = 0; less <= 8; less += 2) {
            for (int what = 0; what < 4; what++) {
                int l = less;
                int w = what;
                int want = Town.busy().tried(less, 40, what);
                due.unchanged("tried(" + l + ", 40, " + w + ")", Town::busy, x -> x.tried(l, 40, w), want);
            }
        }
        PlateHire x = Town.busy();
        int kept = x.count(10);
        due.is("rides are tried", x.tried(0, 40, 0) > 20 ? 1 : 0, 1);
        due.is("and none is kept", x.count(10), kept);
        due.is("none is found", x.found(8, 400, -1, -1, 0), PlateHire.NONE);
    }

    private static int taken(PlateHire x) {
        int sum = 0;
        for (int p = 0; p < 8; p++) {
            sum += x.about(p, 5);
        }
        return sum;
    }

    private static void likeStepping() {
        due.says("TRIED: n hours (1 .. 40) go by with the last PLATES, so many, standing nowhere");
        for (int less = 0; less <= 8; less++) {
            for (int n : new int[] {1, 2, 16, 17, 24, 40}) {
                PlateHire y = Town.busy();
                for (int p = 8 - less; p < 8; p++) {
                    y.stand(p, -1);
                }
                int[] before = {y.count(3), y.count(4), y.count(5), taken(y)};
                Town.hours(y, n);
                int[] then = {y.count(3), y.count(4), y.count(5), taken(y)};
                PlateHire x = Town.busy();
                for (int again = 0; again < 2; again++) {
                    for (int what = 0; what < 4; what++) {
                        due.is("tried(" + less + ", " + n + ", " + what + ")", x.tried(less, n, what),
                            then[what] - before[what]);
                    }
                }
            }
        }
    }

    private static void theLastPlates() {
        due.says("TRIED without the last PLATES, so many");
        PlateHire x = Town.cabs(0, 3);
        Town.law(x, "ward 0 1;ward 2 20;ward 4 400");
        // ward 0 to 1: 1; ward 2 to 3: 20; ward 4 to 0: 401
        x.ask(0, 0, 1);
        x.ask(0, 2, 1);
        x.ask(0, 4, 1);
        x.stand(0, 0);
        x.stand(1, 2);
        x.stand(2, 4);
        int[] taken = {422, 21, 1, 0};
        for (int less = 0; less <= 3; less++) {
            due.is("without " + less + ", rides", x.tried(less, 1, 0), 3 - less);
            due.is("without " + less + ", taken", x.tried(less, 1, 3), taken[less]);
            due.is("without " + less + ", lost in 2 hours", x.tried(3, 2, 1), 0);
        }
        due.is("without any, lost in 3 hours", x.tried(3, 3, 1), 3);
        x.plate(0, 0, 0, 0);
        due.is("a plate more is the last one then", x.tried(1, 1, 0), 3);
    }

    private static void acrossMidnight() {
        due.says("the hour of the day is that modulo 24");
        PlateHire x = new PlateHire();
        x.ask(0, 0, 3);
        x.ask(23, 0, 2);
        Town.hours(x, 23);
        due.is("lost before", x.count(4), 3);
        due.is("23, 0", x.tried(0, 2, 1), 0);
        due.is("23, 0, 1", x.tried(0, 3, 1), 2);
        due.is("23, 0, 1, 2", x.tried(0, 4, 1), 5);
        due.is("and a day later", x.tried(0, 27, 1), 7);
        due.is("and the hour behind", x.tried(0, 28, 1), 10);
    }

    private static void nobodyRuns() {
        due.says("2 cabs' hours without a ride");
        PlateHire x = Town.cabs(0, 2);
        due.is("all stand nowhere", x.tried(0, 40, 2), 0);
        x.stand(0, 1);
        due.is("one does not", x.tried(0, 40, 2), 40);
        due.is("without the other", x.tried(1, 40, 2), 40);
        due.is("without both", x.tried(2, 40, 2), 0);
        x.drive(0, 0, -1);
        due.is("by night only", x.tried(0, 24, 2), 12);
    }

    private static void beyondTheLastHour() {
        due.says("TRIED: n hours (1 .. 40) go by with the last PLATES, so many, standing nowhere");
        PlateHire x = Town.cabs(0, 1);
        x.stand(0, 0);
        x.ask(16, 3, 1);
        Town.hours(x, 400);
        due.is("hours beyond 400 can be tried", x.tried(0, 40, 2), 38);
        due.is("the first of them is of the day's hour 16", x.tried(0, 2, 0), 1);
        due.is("count(2)", x.count(2), 400);
    }

    private static void allPlates() {
        due.says("TRIED without the last PLATES, so many");
        PlateHire x = Town.cabs(0, 8);
        for (int p = 8; p < 12; p++) {
            x.plate(3, 0, 0, 0);
            x.drive(p, 1, 2 * (p - 8));
        }
        for (int p = 0; p < 12; p++) {
            x.stand(p, 2);
        }
        x.ask(0, 2, 11);
        for (int less = 0; less <= 12; less++) {
            due.is("rides without " + less, x.tried(less, 1, 0), Math.min(11, 12 - less));
            due.is("idle ones without " + less, x.tried(less, 1, 2), less == 0 ? 1 : 0);
        }
        due.is("lost without all", x.tried(12, 3, 1), 11);
        due.is("step(1)", x.step(1), 11);
    }
}
