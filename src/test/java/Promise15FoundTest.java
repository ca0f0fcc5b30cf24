/** Promise 15: found. */
public final class Promise15FoundTest {
    private static final Due due = new Due("promise 15, found");

    public static void main(String[] args) {
        none();
        hours();
        wards();
        which();
        hoursAreCounted();
        firstAndLastHour();
        keptOnly();
        nothingChanges();
        due.end();
    }

    /** Rides: 0: hour 0, 0 to 1; 1: hour 0, 0 to 2; 2: hour 1, 1 to 2; 3: hour 1, 2 to 3; 4: hour 3, 2 to 4. */
    private static PlateHire fiveRides() {
        PlateHire x = Town.cabs(0, 2);
        x.ask(0, 0, 2);
        x.ask(1, 1, 1);
        x.ask(1, 2, 1);
        x.ask(3, 2, 1);
        x.stand(0, 0);
        x.stand(1, 0);
        x.step(4);
        return x;
    }

    private static void none() {
        due.says("NONE: none such, too.");
        due.is("no rides", new PlateHire().found(0, 400, -1, -1, 0), PlateHire.NONE);
        PlateHire x = fiveRides();
        due.is("hour 2", x.found(2, 2, -1, -1, 0), PlateHire.NONE);
        due.is("hours to come", x.found(4, 400, -1, -1, 0), PlateHire.NONE);
        due.is("from 3", x.found(0, 400, 3, -1, 0), PlateHire.NONE);
        due.is("to 0", x.found(0, 400, -1, 0, 0), PlateHire.NONE);
        due.is("from 1 to 3", x.found(0, 400, 1, 3, 0), PlateHire.NONE);
    }

    private static void hours() {
        due.says("The i-th RIDE that is kept, of hours from .. to (counted)");
        PlateHire x = fiveRides();
        int[] hourOf = {0, 0, 1, 1, 3};
        for (int from = 0; from <= 4; from++) {
            for (int to = 0; to <= 4; to++) {
                int i = 0;
                for (int k = 0; k < 5; k++) {
                    if (hourOf[k] >= from && hourOf[k] <= to) {
                        due.is("hours " + from + " .. " + to + ", i " + i, x.found(from, to, -1, -1, i), k);
                        i++;
                    }
                }
                due.is("hours " + from + " .. " + to + ", one more", x.found(from, to, -1, -1, i), PlateHire.NONE);
            }
        }
    }

    private static void wards() {
        due.says("from a WARD (-1: any) to a WARD (-1: any)");
        PlateHire x = fiveRides();
        int[] fromOf = {0, 0, 1, 2, 2};
        int[] toOf = {1, 2, 2, 3, 4};
        for (int from = -1; from < 5; from++) {
            for (int to = -1; to < 5; to++) {
                int i = 0;
                for (int k = 0; k < 5; k++) {
                    if ((from == -1 || fromOf[k] == from) && (to == -1 || toOf[k] == to)) {
                        due.is("from " + from + " to " + to + ", i " + i, x.found(0, 400, from, to, i), k);
                        i++;
                    }
                }
                due.is("from " + from + " to " + to + ", one more", x.found(0, 400, from, to, i), PlateHire.NONE);
            }
        }
        for (int ward : Due.beyond(-1, 4)) {
            due.is("from " + ward, x.found(0, 400, ward, -1, 0), PlateHire.NONE);
            due.is("to " + ward, x.found(0, 400, -1, ward, 0), PlateHire.NONE);
            due.is("both " + ward, x.found(0, 400, ward, ward, 0), PlateHire.NONE);
        }
    }

    private static void which() {
        due.says("The i-th RIDE that is kept, of hours from .. to (counted)");
        PlateHire x = fiveRides();
        for (int i = 0; i < 5; i++) {
            due.is("i " + i, x.found(0, 400, -1, -1, i), i);
        }
        for (int i : Due.beyond(0, 4)) {
            due.is("i " + i, x.found(0, 400, -1, -1, i), PlateHire.NONE);
            due.is("i " + i + " from 2", x.found(0, 400, 2, -1, i), PlateHire.NONE);
        }
        due.is("the last from 2", x.found(0, 400, 2, -1, 1), 4);
        due.is("one more from 2", x.found(0, 400, 2, -1, 2), PlateHire.NONE);
    }

    private static void hoursAreCounted() {
        due.says("of hours from .. to (counted)");
        PlateHire x = Town.cabs(0, 1);
        x.ask(1, 0, 1);
        for (int day = 0; day < 3; day++) {
            x.stand(0, 0);
            x.step(24);
        }
        for (int day = 0; day < 3; day++) {
            due.is("hour 1 of day " + day, x.found(24 * day + 1, 24 * day + 1, -1, -1, 0), day);
            due.is("not hour 0", x.found(24 * day, 24 * day, -1, -1, 0), PlateHire.NONE);
            due.is("no other", x.found(24 * day, 24 * day + 23, -1, -1, 1), PlateHire.NONE);
        }
    }

    private static void firstAndLastHour() {
        due.says("hours are counted from 0 on, 400 at most");
        PlateHire x = Town.cabs(0, 1);
        x.ask(0, 0, 1);
        x.stand(0, 0);
        x.step(1);
        Town.hours(x, 398);
        x.ask(15, 3, 1);
        x.stand(0, 3);
        x.step(1);
        int last = x.count(10) - 1;
        due.is("hour 0", x.found(0, 0, -1, -1, 0), 0);
        due.is("hour 399", x.found(399, 399, -1, -1, 0), last);
        due.is("hour 399 on", x.found(399, 400, -1, -1, 0), last);
        due.is("hour 400", x.found(400, 400, -1, -1, 0), PlateHire.NONE);
        due.is("the wrong way", x.found(399, 0, -1, -1, 0), PlateHire.NONE);
        due.is("all", x.found(0, 399, -1, -1, last), last);
    }

    private static void keptOnly() {
        due.says("RIDES are kept, the first 300.");
        PlateHire x = Town.cabs(0, 1);
        for (int i = 0; i < 120; i++) {
            x.ask(i / 5, i % 5, 1);
        }
        x.stand(0, 0);
        Town.hours(x, 299);
        due.is("kept at hour 299", x.count(10), 299);
        due.is("no ride 299 yet", x.found(0, 400, -1, -1, 299), PlateHire.NONE);
        x.step(1);
        due.is("ride 299", x.found(0, 400, -1, -1, 299), 299);
        due.is("its hour", x.found(299, 299, -1, -1, 0), 299);
        x.step(1);
        due.is("a ride more", x.count(3), 301);
        due.is("is not kept", x.found(0, 400, -1, -1, 300), PlateHire.NONE);
        due.is("nor found by its hour", x.found(300, 300, -1, -1, 0), PlateHire.NONE);
        due.is("kept", x.count(10), 300);
        due.is("the first is as it was", x.found(0, 0, -1, -1, 0), 0);
    }

    private static void nothingChanges() {
        due.says("NONE: none such, too.");
        due.unchanged("i -1", Town::busy, x -> x.found(0, 400, -1, -1, -1), PlateHire.NONE);
        due.unchanged("from 5", Town::busy, x -> x.found(0, 400, 5, -1, 0), PlateHire.NONE);
        due.unchanged("to -2", Town::full, x -> x.found(0, 400, -1, -2, 0), PlateHire.NONE);
        due.unchanged("i 300", Town::full, x -> x.found(0, 400, -1, -1, 300), PlateHire.NONE);
        due.unchanged("the first", Town::full, x -> x.found(0, 400, -1, -1, 0), 0);
        due.unchanged("the last", Town::full, x -> x.found(0, 400, -1, -1, 299), 299);
    }
}
