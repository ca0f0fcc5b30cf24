/** Promise 7: fill. */
public final class Promise07FillTest {
    private static final Due due = new Due("promise 7, fill");

    public static void main(String[] args) {
        nothingToFill();
        worths();
        leastDriver();
        nobodyIsBehindAll();
        shiftsThatAreHadStay();
        firstTenShifts();
        firstTenDrivers();
        tenAndTen();
        fillAgain();
        allSmallOnes();
        due.end();
    }

    private static void shifts(PlateHire x, String name, int... drivers) {
        for (int i = 0; i < drivers.length; i++) {
            due.is(name + ", shift " + i, x.about(i / 2, 2 + i % 2), drivers[i]);
        }
    }

    private static void nothingToFill() {
        due.says("SHIFTS are FILLED: all worths of what came so.");
        due.unchanged("nothing is there", PlateHire::new, PlateHire::fill, 0);
        due.unchanged("no plates", () -> Town.withDrivers(0, 0, 1, 2), PlateHire::fill, 0);
        due.unchanged("no drivers", () -> Town.plates(0, 1, 2, 3), PlateHire::fill, 0);
        due.unchanged("all have one", () -> Town.cabs(0, 3), PlateHire::fill, 0);
        due.unchanged("no driver is free", Town::full, PlateHire::fill, 0);
        PlateHire x = Town.cabs(0, 1);
        x.driver(2);
        due.is("no shift is free", x.fill(), 0);
        shifts(x, "no shift is free", 0, 1);
    }

    private static void worths() {
        due.says("worth 2 for each SHIFT as wished, 1 for another one; so that all worths together are most");
        PlateHire x = Town.withDrivers(1, 0);
        due.is("day", x.fill(), 2);
        shifts(x, "day", 0, -1);
        x = Town.withDrivers(1, 1);
        due.is("night", x.fill(), 2);
        shifts(x, "night", -1, 0);
        x = Town.withDrivers(1, 2);
        due.is("any", x.fill(), 2);
        shifts(x, "any", 0, -1);
        x = Town.withDrivers(1, 0, 0);
        due.is("one as wished, one not", x.fill(), 3);
        shifts(x, "one as wished, one not", 0, 1);
        x = Town.withDrivers(1, 1, 0);
        due.is("both as wished", x.fill(), 4);
        shifts(x, "both as wished", 1, 0);
        x = Town.withDrivers(1, 2, 0);
        due.is("any goes where the other would not", x.fill(), 4);
        shifts(x, "any goes where the other would not", 1, 0);
        x = Town.withDrivers(1, 1);
        x.driver(1);
        x.drive(0, 1, 1);
        due.is("day by one who wishes night", x.fill(), 1);
        shifts(x, "day by one who wishes night", 0, 1);
    }

    private static void leastDriver() {
        due.says("of several: the first SHIFT has the least DRIVER by which that can be");
        PlateHire x = Town.withDrivers(2, 0, 2, 1, 0);
        due.is("all as wished", x.fill(), 8);
        shifts(x, "all as wished", 0, 1, 3, 2);
        x = Town.withDrivers(2, 1, 1, 1, 1);
        due.is("two as wished", x.fill(), 6);
        shifts(x, "day takes the least too", 0, 1, 2, 3);
        x = Town.withDrivers(1, 1, 2, 2);
        due.is("more drivers than shifts", x.fill(), 4);
        shifts(x, "more drivers than shifts", 1, 0);
        x = Town.withDrivers(1, 2, 2, 2);
        due.is("all alike", x.fill(), 4);
        shifts(x, "all alike", 0, 1);
    }

    private static void nobodyIsBehindAll() {
        due.says("(nobody is behind all), then the next one, and so on");
        PlateHire x = Town.withDrivers(3, 1, 0);
        due.is("shifts to spare", x.fill(), 4);
        shifts(x, "shifts to spare", 1, 0, -1, -1, -1, -1);
        x = Town.withDrivers(3, 1, 1);
        due.is("nobody by day, if that is worth more", x.fill(), 4);
        shifts(x, "nobody by day", -1, 0, -1, 1, -1, -1);
        x = Town.withDrivers(2, 1, 1, 1);
        due.is("the first day rather than nobody", x.fill(), 5);
        shifts(x, "the first day rather than nobody", 0, 1, -1, 2);
    }

    private static void shiftsThatAreHadStay() {
        due.says("FILLED are SHIFTS without a DRIVER (by PLATES, day ahead of night; the first 10)");
        PlateHire x = Town.withDrivers(2, 2, 2, 2, 2);
        x.drive(0, 1, 3);
        due.is("around driver 3", x.fill(), 6);
        shifts(x, "around driver 3", 0, 3, 1, 2);
        due.is("once more", x.fill(), 0);
        shifts(x, "once more", 0, 3, 1, 2);
        x = Town.withDrivers(1, 0, 1);
        x.drive(0, 0, 1);
        x.drive(0, 1, 0);
        due.is("as nobody wished", x.fill(), 0);
        shifts(x, "as nobody wished", 1, 0);
    }

    private static void firstTenShifts() {
        due.says("FILLED are SHIFTS without a DRIVER (by PLATES, day ahead of night; the first 10)");
        PlateHire x = Town.withDrivers(6, 1, 1, 1, 1, 1, 1);
        due.is("the night of plate 5 is not looked at", x.fill(), 11);
        shifts(x, "ten shifts", 0, 1, -1, 2, -1, 3, -1, 4, -1, 5, -1, -1);
        x = Town.withDrivers(6, 1, 1, 1, 1, 1, 1);
        x.driver(2);
        x.drive(0, 0, 6);
        due.is("the day of plate 5 is the tenth then", x.fill(), 11);
        shifts(x, "ten shifts that are free", 6, 0, 1, 2, -1, 3, -1, 4, -1, 5, -1, -1);
        x.drive(0, 0, -1);
        x.drive(0, 1, -1);
        due.is("the rest, from the first shift on", x.fill(), 4);
        shifts(x, "the rest", 6, 0, 1, 2, -1, 3, -1, 4, -1, 5, -1, -1);
        x = Town.withDrivers(12, 0, 0, 0, 0, 0, 0, 0, 0, 0, 0);
        due.is("ten who wish the day have five of it", x.fill(), 15);
        shifts(x, "ten who wish the day", 0, 1, 2, 3, 4, 5, 6, 7, 8, 9, -1, -1, -1);
    }

    private static void firstTenDrivers() {
        due.says("by DRIVERS without one (by numbers, the first 10)");
        PlateHire x = Town.withDrivers(1, 1, 1, 1, 1, 1, 1, 1, 1, 1, 1, 0);
        due.is("the eleventh driver is not looked at", x.fill(), 3);
        shifts(x, "the first ten drivers only", 0, 1);
        x = Town.withDrivers(1, 1, 1, 1, 1, 1, 1, 1, 1, 1, 0, 0);
        due.is("the tenth driver is", x.fill(), 4);
        shifts(x, "the tenth driver", 9, 0);
        x = Town.withDrivers(2, 1, 1, 1, 1, 1, 1, 1, 1, 1, 1, 0);
        x.drive(1, 1, 0);
        x.drive(1, 0, 1);
        due.is("the first ten that are free", x.fill(), 4);
        shifts(x, "the first ten that are free", 10, 2, 1, 0);
    }

    private static void tenAndTen() {
        due.says("by DRIVERS without one (by numbers, the first 10)");
        PlateHire x = Town.withDrivers(12, 2, 2, 2, 2, 2, 2, 2, 2, 2, 2, 2, 2, 2, 2, 2, 2);
        x.drive(0, 0, 15);
        due.is("ten of them", x.fill(), 20);
        shifts(x, "ten", 15, 0, 1, 2, 3, 4, 5, 6, 7, 8, 9, -1, -1);
        due.is("five more", x.fill(), 10);
        shifts(x, "all", 15, 0, 1, 2, 3, 4, 5, 6, 7, 8, 9, 10, 11, 12, 13, 14, -1);
        due.is("none more", x.fill(), 0);
        x.drive(4, 1, -1);
        due.is("and again from the first free one on", x.fill(), 2);
        shifts(x, "again", 15, 0, 1, 2, 3, 4, 5, 6, 7, 8, 9, 10, 11, 12, 13, 14, -1);
    }

    /** What one filling left over is counted anew by the next one. */
    private static void fillAgain() {
        due.says("SHIFTS are FILLED: all worths of what came so.");
        for (int wish = 0; wish < 3; wish++) {
            PlateHire x = Town.withDrivers(1, wish, wish, wish, wish);
            due.is("two of four, wish " + wish, x.fill(), wish == 2 ? 4 : 3);
            shifts(x, "two of four", 0, 1);
            x.plate(0, 0, 0, 0);
            x.drive(1, 0, 2);
            x.drive(1, 1, 3);
            x.plate(0, 0, 0, 0);
            int open = wish == 1 ? 1 : 0;
            x.driver(2);
            x.drive(2, 1 - open, 4);
            x.driver(1 - open);
            due.is("one who wishes another shift, behind wish " + wish, x.fill(), 1);
            due.is("has it all the same", x.about(2, 2 + open), 5);
        }
        PlateHire x = Town.withDrivers(1, 1, 1, 1, 1);
        x.fill();
        x.plate(0, 0, 0, 0);
        x.plate(0, 0, 0, 0);
        x.plate(0, 0, 0, 0);
        due.is("two nights of three", x.fill(), 4);
        shifts(x, "two nights of three", 0, 1, -1, 2, -1, 3, -1, -1);
    }

    // ---- all towns of up to three plates and four drivers, against a look at every way

    private static int[] way;
    private static int[] bestWay;
    private static int most;

    private static void allSmallOnes() {
        due.says("so that all worths together are most; of several: the first SHIFT has the least DRIVER");
        for (int plates = 1; plates <= 3; plates++) {
            for (int drivers = 0; drivers <= 4; drivers++) {
                for (int code = 0; code < Math.pow(3, drivers); code++) {
                    smallOne(plates, wishesOf(code, drivers));
                }
            }
        }
    }

    private static int[] wishesOf(int code, int drivers) {
        int[] wishes = new int[drivers];
        for (int d = 0; d < drivers; d++) {
            wishes[d] = code % 3;
            code /= 3;
        }
        return wishes;
    }

    private static void smallOne(int plates, int[] wishes) {
        PlateHire x = Town.withDrivers(plates, wishes);
        way = new int[2 * plates];
        most = -1;
        look(0, 0, 0, wishes);
        String name = plates + " plates, wishes " + java.util.Arrays.toString(wishes);
        due.is(name, x.fill(), most);
        shifts(x, name, bestWay);
    }

    /** Ways come in order, so of several that are most the first one stays. */
    private static void look(int shift, int used, int sum, int[] wishes) {
        if (shift == way.length) {
            if (sum > most) {
                most = sum;
                bestWay = way.clone();
            }
            return;
        }
        for (int d = 0; d < wishes.length; d++) {
            if ((used >> d & 1) == 0) {
                way[shift] = d;
                look(shift + 1, used | 1 << d, sum + (wishes[d] == 2 || wishes[d] == shift % 2 ? 2 : 1), wishes);
            }
        }
        way[shift] = -1;
        look(shift + 1, used, sum, wishes);
    }
}
