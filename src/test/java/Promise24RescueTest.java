/** Promise 24: rescue. */
public final class Promise24RescueTest {
    private static final Due due = new Due("promise 24, rescue");

    public static void main(String[] args) {
        noSuchPlate();
        whichHundredths();
        yearsAndRate();
        itDoesNotFail();
        inOrder();
        howMuchIsParted();
        justItsPart();
        worthNothing();
        thatPlateOnly();
        again();
        theMost();
        due.end();
    }

    /** A plate worth so much a year, with one loan. */
    private static PlateHire failing(int lease, int loan) {
        PlateHire x = Town.owing(loan);
        x.rent(0, lease, 0);
        return x;
    }

    private static void noSuchPlate() {
        due.says("by how much LOANS are less. NONE; BAD; STATE: it does not FAIL.");
        for (int p : Due.beyond(0, 7)) {
            due.unchanged("rescue(" + p + ", 50, 1, 0)", Town::busy, x -> x.rescue(p, 50, 1, 0), PlateHire.NONE);
        }
        due.unchanged("rescue(12, 50, 1, 0)", Town::full, x -> x.rescue(12, 50, 1, 0), PlateHire.NONE);
        due.unchanged("no plates", PlateHire::new, x -> x.rescue(0, 50, 1, 0), PlateHire.NONE);
    }

    private static void whichHundredths() {
        due.says("RESCUE (hundredths 0 .. 100): by how much LOANS are less.");
        due.is("plate 0 fails", Town.busy().fails(1, 0) & 1, 1);
        for (int hundredths : Due.beyond(0, 100)) {
            due.unchanged(hundredths + " hundredths", Town::busy, x -> x.rescue(0, hundredths, 1, 0), PlateHire.BAD);
        }
        for (int hundredths = 0; hundredths <= 100; hundredths++) {
            PlateHire x = failing(1000, 1001);
            due.is(hundredths + " hundredths", x.rescue(0, hundredths, 1, 0), 1001 - 10 * hundredths);
            due.is("owes(0)", x.owes(0), 10 * hundredths);
        }
    }

    private static void yearsAndRate() {
        due.says("RESCUE (hundredths 0 .. 100): by how much LOANS are less. NONE; BAD; STATE: it does not FAIL.");
        for (int years : Due.beyond(1, 40)) {
            due.unchanged(years + " years", Town::busy, x -> x.rescue(0, 50, years, 0), PlateHire.BAD);
        }
        for (int rate : Due.beyond(0, 500)) {
            due.unchanged("rate " + rate, Town::busy, x -> x.rescue(0, 50, 1, rate), PlateHire.BAD);
        }
        due.is("1 year", failing(100, 9999).rescue(0, 100, 1, 0), 9899);
        due.is("40 years", failing(100, 9999).rescue(0, 100, 40, 0), 5999);
        due.is("rate 500", failing(150, 9999).rescue(0, 100, 1, 500), 9899);
    }

    private static void itDoesNotFail() {
        due.says("A RESCUE (hundredths) of one that FAILS");
        due.unchanged("no loans", () -> Town.plates(0), x -> x.rescue(0, 0, 1, 0), PlateHire.STATE);
        due.unchanged("less", () -> failing(100, 99), x -> x.rescue(0, 0, 1, 0), PlateHire.STATE);
        due.unchanged("just as much", () -> failing(100, 100), x -> x.rescue(0, 0, 1, 0), PlateHire.STATE);
        due.unchanged("just as much by two years", () -> failing(50, 100), x -> x.rescue(0, 0, 2, 0), PlateHire.STATE);
        due.is("more", failing(100, 101).rescue(0, 0, 1, 0), 101);
        due.is("more by one year", failing(50, 100).rescue(0, 0, 1, 0), 100);
    }

    private static void inOrder() {
        due.says("NONE; BAD; STATE: it does not FAIL.");
        due.unchanged("plate and hundredths", Town::busy, x -> x.rescue(8, 101, 1, 0), PlateHire.NONE);
        due.unchanged("plate and years", Town::busy, x -> x.rescue(-1, 0, 0, 0), PlateHire.NONE);
        due.unchanged("plate and rate", Town::busy, x -> x.rescue(8, 0, 1, 501), PlateHire.NONE);
        due.unchanged("hundredths, and it does not fail", Town::busy, x -> x.rescue(7, 101, 1, 0), PlateHire.BAD);
        due.unchanged("years, and it does not fail", Town::busy, x -> x.rescue(7, 0, 41, 0), PlateHire.BAD);
        due.unchanged("rate, and it does not fail", Town::busy, x -> x.rescue(7, 0, 1, -1), PlateHire.BAD);
        due.unchanged("it does not fail", Town::busy, x -> x.rescue(7, 0, 1, 0), PlateHire.STATE);
    }

    private static void howMuchIsParted() {
        due.says("its WORTH times hundredths / 100, cut, is PARTED");
        due.is("half of 101", failing(101, 110).rescue(0, 50, 1, 0), 60);
        due.is("99 of 101", failing(101, 110).rescue(0, 99, 1, 0), 11);
        due.is("1 of 99 is cut to nothing", failing(99, 110).rescue(0, 1, 1, 0), 110);
        due.is("1 of 100", failing(100, 110).rescue(0, 1, 1, 0), 109);
        due.is("99 of 1 is cut to nothing", failing(1, 110).rescue(0, 99, 1, 0), 110);
        due.is("100 of 1", failing(1, 110).rescue(0, 100, 1, 0), 109);
    }

    private static void justItsPart() {
        due.says("each LOAN is just its part then");
        PlateHire x = Town.plates(0);
        x.rent(0, 100, 0);
        int[][] loans = {{2, 30}, {0, 40}, {1, 50}, {1, 70}, {9, 1}};
        for (int[] loan : loans) {
            x.loan(0, loan[0], loan[1]);
        }
        due.is("rescue", x.rescue(0, 100, 1, 0), 91);
        int[] then = {0, 40, 25, 35, 0};
        for (int i = 0; i < then.length; i++) {
            due.is("loan " + i, x.part(i, 999999), then[i]);
        }
        due.is("owes(0)", x.owes(0), 100);
        due.is("count(6)", x.count(6), 5);
        due.is("the ranks are as before", x.part(2, 65), 11);
        due.is("the ranks are as before", x.part(1, 65), 40);
        due.is("it does not fail any more", x.fails(1, 0), 0);
    }

    private static void worthNothing() {
        due.says("its WORTH times hundredths / 100, cut, is PARTED");
        PlateHire x = Town.owing(5);
        x.rent(0, 0, 9999);
        due.is("all is lost", x.rescue(0, 100, 40, 0), 5);
        due.is("owes(0)", x.owes(0), 0);
        due.is("it does not fail with nothing", x.rescue(0, 100, 40, 0), PlateHire.STATE);
    }

    private static void thatPlateOnly() {
        due.says("A RESCUE (hundredths) of one that FAILS");
        PlateHire x = Town.plates(0, 0);
        x.rent(0, 10, 0);
        x.rent(1, 10, 0);
        x.loan(0, 0, 20);
        x.loan(1, 0, 50);
        x.loan(0, 0, 20);
        x.loan(0, 0, 20);
        due.is("rescue(0, 100, 1, 0)", x.rescue(0, 100, 1, 0), 50);
        int[] then = {4, 50, 3, 3};
        for (int i = 0; i < then.length; i++) {
            due.is("loan " + i, x.part(i, 999999), then[i]);
        }
        due.is("the other plate fails still", x.fails(1, 0), 2);
    }

    private static void again() {
        due.says("STATE: it does not FAIL.");
        PlateHire x = failing(101, 110);
        due.is("half", x.rescue(0, 50, 1, 0), 60);
        due.is("not once more", x.rescue(0, 50, 1, 0), PlateHire.STATE);
        due.is("owes(0)", x.owes(0), 50);
        x.loan(0, 1, 80);
        due.is("all of 101", x.rescue(0, 100, 1, 0), 29);
        due.is("loan 0", x.part(0, 999999), 50);
        due.is("loan 1", x.part(1, 999999), 51);
        due.is("just as much is owed", x.rescue(0, 100, 1, 0), PlateHire.STATE);
        x.rent(0, 100, 0);
        due.is("by a lease that is less", x.rescue(0, 100, 1, 0), 1);
    }

    private static void theMost() {
        due.says("by how much LOANS are less");
        PlateHire x = Town.plates(0);
        x.rent(0, 9999, 0);
        for (int i = 0; i < 30; i++) {
            x.loan(0, i % 10, 99999);
        }
        due.is("of 2999970 by 399960", x.rescue(0, 100, 40, 0), 2600010);
        due.is("owes(0)", x.owes(0), 399960);
        due.is("rank 0 is whole", x.part(0, 999999), 99999);
        due.is("rank 1 has its share", x.part(1, 999999), 33321);
        due.is("rank 2 has none", x.part(2, 999999), 0);
    }
}
