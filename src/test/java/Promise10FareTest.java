/** Promise 10: fare. */
public final class Promise10FareTest {
    private static final Due due = new Due("promise 10, fare");

    public static void main(String[] args) {
        noSuchWard();
        hoursOfTheDay();
        hoursWaited();
        noneAheadOfBad();
        noClauses();
        base();
        step();
        night();
        ward();
        waits();
        together();
        caps();
        withoutCaps();
        due.end();
    }

    private static PlateHire lawful(String text) {
        PlateHire x = new PlateHire();
        Town.law(x, text);
        return x;
    }

    private static void noSuchWard() {
        due.says("FARE from a WARD (0 .. 4) to a WARD at an hour with so many hours waited: together");
        for (int ward : Due.beyond(0, 4)) {
            due.unchanged("from " + ward, Town::busy, x -> x.fare(ward, 0, 0, 0), PlateHire.NONE);
            due.unchanged("to " + ward, Town::busy, x -> x.fare(0, ward, 0, 0), PlateHire.NONE);
            due.unchanged("from and to " + ward, Town::busy, x -> x.fare(ward, ward, 0, 0), PlateHire.NONE);
        }
        PlateHire x = lawful("base 5");
        for (int from = 0; from < 5; from++) {
            for (int to = 0; to < 5; to++) {
                due.is("from " + from + " to " + to, x.fare(from, to, 0, 0), 5);
            }
        }
    }

    private static void hoursOfTheDay() {
        due.says("NONE; BAD: hour (0 .. 23), wait (0 .. 9).");
        for (int hour : Due.beyond(0, 23)) {
            due.unchanged("hour " + hour, Town::busy, x -> x.fare(0, 4, hour, 0), PlateHire.BAD);
        }
        PlateHire x = lawful("base 5");
        for (int hour = 0; hour < 24; hour++) {
            due.is("hour " + hour, x.fare(4, 4, hour, 9), 5);
        }
    }

    private static void hoursWaited() {
        due.says("NONE; BAD: hour (0 .. 23), wait (0 .. 9).");
        for (int wait : Due.beyond(0, 9)) {
            due.unchanged("wait " + wait, Town::busy, x -> x.fare(4, 0, 23, wait), PlateHire.BAD);
        }
        PlateHire x = lawful("base 5");
        for (int wait = 0; wait <= 9; wait++) {
            due.is("wait " + wait, x.fare(4, 4, 23, wait), 5);
        }
    }

    private static void noneAheadOfBad() {
        due.says("REFUSALS, of several the first one told: NONE there is no such PLATE, DRIVER, SHIFT, WARD, LOAN");
        due.unchanged("from and hour", Town::busy, x -> x.fare(5, 0, 24, 0), PlateHire.NONE);
        due.unchanged("to and hour", Town::busy, x -> x.fare(0, -1, -1, 0), PlateHire.NONE);
        due.unchanged("from and wait", Town::busy, x -> x.fare(-1, 0, 0, 10), PlateHire.NONE);
        due.unchanged("all", Town::busy, x -> x.fare(5, 5, 24, 10), PlateHire.NONE);
        due.unchanged("hour and wait", Town::busy, x -> x.fare(0, 0, 24, 10), PlateHire.BAD);
    }

    private static void noClauses() {
        due.says("No CLAUSES at first: 0.");
        PlateHire x = new PlateHire();
        for (int hour = 0; hour < 24; hour++) {
            due.is("fare(0, 4, " + hour + ", 9)", x.fare(0, 4, hour, 9), 0);
        }
        due.is("refusals all the same", x.fare(5, 4, 0, 0), PlateHire.NONE);
        due.is("refusals all the same", x.fare(0, 4, 24, 0), PlateHire.BAD);
    }

    private static void base() {
        due.says("together: base: N;");
        due.is("base 0", lawful("base 0").fare(3, 1, 0, 9), 0);
        due.is("base 100", lawful("base 100").fare(3, 1, 0, 9), 100);
        due.is("base 9999", lawful("base 9999").fare(2, 2, 12, 0), 9999);
    }

    private static void step() {
        due.says("step: N times how far apart the WARDS' numbers are;");
        PlateHire x = lawful("step 10");
        for (int from = 0; from < 5; from++) {
            for (int to = 0; to < 5; to++) {
                int apart = from > to ? from - to : to - from;
                due.is("from " + from + " to " + to, x.fare(from, to, 12, 9), 10 * apart);
            }
        }
    }

    private static void night() {
        due.says("night: N at an hour (of the day) below 6 or above 19;");
        PlateHire x = lawful("night 7");
        int[] nightly = {7, 7, 7, 7, 7, 7, 0, 0, 0, 0, 0, 0, 0, 0, 0, 0, 0, 0, 0, 0, 7, 7, 7, 7};
        for (int hour = 0; hour < 24; hour++) {
            due.is("hour " + hour, x.fare(0, 1, hour, 3), nightly[hour]);
        }
    }

    private static void ward() {
        due.says("ward: N if either is W;");
        for (int ward = 0; ward < 5; ward++) {
            PlateHire x = lawful("ward " + ward + " 8");
            for (int from = 0; from < 5; from++) {
                for (int to = 0; to < 5; to++) {
                    boolean either = from == ward || to == ward;
                    due.is("ward " + ward + ", from " + from + " to " + to, x.fare(from, to, 0, 0), either ? 8 : 0);
                }
            }
        }
    }

    private static void waits() {
        due.says("wait: N times the hours waited;");
        PlateHire x = lawful("wait 6");
        for (int wait = 0; wait <= 9; wait++) {
            due.is("waited " + wait, x.fare(2, 4, 0, wait), 6 * wait);
        }
    }

    private static void together() {
        due.says("at an hour with so many hours waited: together");
        PlateHire x = lawful("base 1;step 20;night 300;ward 3 4000;wait 100;cap 9999");
        due.is("all of it", x.fare(3, 1, 5, 2), 4541);
        due.is("by day", x.fare(3, 1, 6, 2), 4241);
        due.is("another ward", x.fare(2, 1, 19, 2), 221);
        due.is("above the cap", lawful("base 9999;base 1;cap 9999").fare(0, 0, 12, 0), 9999);
        due.is("several alike", lawful("base 1;base 20;ward 0 300;ward 1 4000").fare(0, 1, 0, 0), 4321);
        due.is("the same ward twice", lawful("ward 2 3;ward 2 4").fare(2, 0, 0, 0), 7);
    }

    private static void caps() {
        due.says("then the least of all cap's N (99999 without any), if that is less");
        due.is("below", lawful("cap 41;base 40").fare(0, 0, 12, 0), 40);
        due.is("just as much", lawful("cap 40;base 40").fare(0, 0, 12, 0), 40);
        due.is("above", lawful("cap 39;base 40").fare(0, 0, 12, 0), 39);
        due.is("the least is the first", lawful("cap 20;base 40;cap 30").fare(0, 0, 12, 0), 20);
        due.is("the least is the last", lawful("cap 30;cap 25;base 40;cap 20").fare(0, 0, 12, 0), 20);
        due.is("the least is between", lawful("cap 30;cap 20;base 40;cap 25").fare(0, 0, 12, 0), 20);
        due.is("a cap ahead counts for what is behind", lawful("cap 30;base 20;base 20").fare(0, 0, 12, 0), 30);
        due.is("a cap behind counts once", lawful("base 20;cap 15;base 20").fare(0, 0, 12, 0), 15);
        due.is("cap 0", lawful("cap 0;base 40").fare(0, 0, 12, 0), 0);
        due.is("a cap alone", lawful("cap 9").fare(0, 0, 12, 0), 0);
        due.is("the greatest cap", lawful("cap 9999;wait 9999").fare(0, 0, 12, 9), 9999);
    }

    private static void withoutCaps() {
        due.says("then the least of all cap's N (99999 without any), if that is less");
        String nearly = "wait 9999;base 9999;base ";
        due.is("99998", lawful(nearly + 8).fare(0, 0, 12, 9), 99998);
        due.is("99999", lawful(nearly + 9).fare(0, 0, 12, 9), 99999);
        due.is("100000", lawful(nearly + 10).fare(0, 0, 12, 9), 99999);
        due.is("100001", lawful(nearly + 11).fare(0, 0, 12, 9), 99999);
        due.is("the most", lawful("wait 9999;wait 9999;wait 9999;wait 9999;wait 9999;wait 9999").fare(0, 0, 12, 9), 99999);
        due.is("without hours waited", lawful("wait 9999;wait 9999;wait 9999;wait 9999").fare(0, 0, 12, 0), 0);
    }
}
