/** Promise 21: fails. */
public final class Promise21FailsTest {
    private static final Due due = new Due("promise 21, fails");

    public static void main(String[] args) {
        howManyYears();
        whichRate();
        nobody();
        more();
        bits();
        byYearsAndRate();
        due.end();
    }

    private static void howManyYears() {
        due.says("PLATES that FAIL, as bits. BAD.");
        for (int years : Due.beyond(1, 40)) {
            due.unchanged("fails(" + years + ", 0)", Town::busy, x -> x.fails(years, 0), PlateHire.BAD);
            due.unchanged("no plates, " + years, PlateHire::new, x -> x.fails(years, 0), PlateHire.BAD);
        }
        PlateHire x = Town.owing(100);
        x.rent(0, 3, 0);
        for (int years = 1; years <= 40; years++) {
            due.is(years + " years", x.fails(years, 0), 3 * years < 100 ? 1 : 0);
        }
    }

    private static void whichRate() {
        due.says("PLATES that FAIL, as bits. BAD.");
        for (int rate : Due.beyond(0, 500)) {
            due.unchanged("fails(1, " + rate + ")", Town::busy, x -> x.fails(1, rate), PlateHire.BAD);
        }
        due.unchanged("both", Town::busy, x -> x.fails(0, 501), PlateHire.BAD);
        PlateHire x = Town.owing(1000);
        x.rent(0, 1000, 0);
        due.is("rate 0", x.fails(1, 0), 0);
        due.is("rate 1", x.fails(1, 1), 1);
        due.is("rate 500", x.fails(1, 500), 1);
        x.rent(0, 1500, 0);
        due.is("rate 499", x.fails(1, 499), 0);
        due.is("rate 500", x.fails(1, 500), 0);
        x.rent(0, 1499, 0);
        due.is("rate 499", x.fails(1, 499), 0);
        due.is("rate 500", x.fails(1, 500), 1);
    }

    private static void nobody() {
        due.says("PLATES that FAIL, as bits. BAD.");
        due.unchanged("no plates", PlateHire::new, x -> x.fails(1, 0), 0);
        due.unchanged("no loans", () -> Town.plates(0, 1, 2, 3), x -> x.fails(40, 500), 0);
    }

    private static void more() {
        due.says("A PLATE FAILS, if its LOANS are more than its WORTH.");
        PlateHire x = Town.plates(0, 0, 0, 0);
        x.loan(0, 0, 99);
        x.loan(1, 0, 100);
        x.loan(2, 0, 101);
        x.loan(3, 0, 50);
        x.loan(3, 9, 51);
        for (int p = 0; p < 4; p++) {
            x.rent(p, 100, 0);
        }
        due.is("99, 100, 101, 50 and 51 of 100", x.fails(1, 0), 4 | 8);
        for (int p = 0; p < 4; p++) {
            x.rent(p, 0, 9999);
        }
        due.is("worth nothing", x.fails(40, 0), 15);
        PlateHire y = Town.owing(1);
        due.is("1 of nothing", y.fails(1, 0), 1);
        y.rescue(0, 0, 1, 0);
        due.is("nothing of nothing", y.fails(1, 0), 0);
    }

    private static void bits() {
        due.says("PLATES that FAIL, as bits. BAD.");
        for (int failing = 0; failing < 12; failing++) {
            PlateHire x = Town.plates(0, 0, 0, 0, 0, 0, 0, 0, 0, 0, 0, 0);
            x.loan(failing, 0, 1);
            due.is("plate " + failing, x.fails(1, 0), 1 << failing);
        }
        due.is("all of twelve", Town.owing(1, 1, 1, 1, 1, 1, 1, 1, 1, 1, 1, 1).fails(1, 0), 4095);
    }

    private static void byYearsAndRate() {
        due.says("A PLATE FAILS, if its LOANS are more than its WORTH.");
        PlateHire x = Town.owing(100, 101, 200);
        x.plate(2, 0, 100, 0);
        x.loan(3, 0, 91);
        for (int p = 0; p < 3; p++) {
            x.rent(p, 100, 0);
        }
        due.is("a year", x.fails(1, 0), 2 | 4 | 8);
        due.is("two years", x.fails(2, 0), 0);
        due.is("two years at 100", x.fails(2, 100), 4);
        due.is("a year at 500", x.fails(1, 500), 15);
        due.unchanged("a look", () -> Town.owing(5, 6), y -> y.fails(1, 0), 3);
    }
}
