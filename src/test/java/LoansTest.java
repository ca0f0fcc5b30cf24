/** Promises 17 to 24: worth, loans, who fails and the rescue. */
public final class LoansTest {
    private static final Due due = new Due("loans");

    public static void main(String[] args) {
        value();
        rent();
        loan();
        owes();
        fails();
        part();
        partOnOnePlate();
        partOfMuch();
        over();
        rescue();
        rescueShares();
        allLoans();
        due.end();
    }

    private static void value() {
        PlateHire x = new PlateHire();
        x.plate(0, 0, 1000, 0);
        x.plate(2, 0, 1019, 17);
        x.plate(0, 0, 9999, 0);
        x.plate(0, 0, 5, 6);
        due.is("value(-1, 1, 0)", x.value(-1, 1, 0), PlateHire.NONE);
        due.is("value(4, 1, 0)", x.value(4, 1, 0), PlateHire.NONE);
        due.is("NONE is ahead of BAD", x.value(4, 0, 0), PlateHire.NONE);
        due.is("value(0, 0, 0)", x.value(0, 0, 0), PlateHire.BAD);
        due.is("value(0, 41, 0)", x.value(0, 41, 0), PlateHire.BAD);
        due.is("value(0, 1, -1)", x.value(0, 1, -1), PlateHire.BAD);
        due.is("value(0, 1, 501)", x.value(0, 1, 501), PlateHire.BAD);
        due.is("a year at nothing", x.value(0, 1, 0), 1000);
        due.is("a year at 100, cut", x.value(0, 1, 100), 909);
        due.is("two years at 100, cut each", x.value(0, 2, 100), 1735);
        due.is("three years at 100", x.value(0, 3, 100), 2486);
        due.is("a year at 500", x.value(0, 1, 500), 666);
        due.is("nine tenths of a ramp, cut", x.value(1, 1, 0), 900);
        due.is("the most", x.value(2, 40, 0), 399960);
        due.is("the most at 1", x.value(2, 40, 1), 391857);
        due.is("never below 0", x.value(3, 40, 0), 0);
        due.is("never below 0", x.value(3, 1, 500), 0);
    }

    private static void rent() {
        PlateHire x = new PlateHire();
        x.plate(2, 0, 1005, 4);
        due.is("rent(1, 0, 0)", x.rent(1, 0, 0), PlateHire.NONE);
        due.is("rent(-1, -1, 0)", x.rent(-1, -1, 0), PlateHire.NONE);
        due.is("rent(0, -1, 0)", x.rent(0, -1, 0), PlateHire.BAD);
        due.is("rent(0, 10000, 0)", x.rent(0, 10000, 0), PlateHire.BAD);
        due.is("rent(0, 0, -1)", x.rent(0, 0, -1), PlateHire.BAD);
        due.is("rent(0, 0, 10000)", x.rent(0, 0, 10000), PlateHire.BAD);
        due.is("nothing has changed", x.value(0, 1, 0), 900);
        due.is("the lease as it was told", x.rent(0, 9999, 9), 1005);
        due.is("value", x.value(0, 1, 0), 8990);
        due.is("again", x.rent(0, 0, 9999), 9999);
        due.is("value", x.value(0, 1, 0), 0);
    }

    private static void loan() {
        PlateHire x = new PlateHire();
        x.plate(0, 0, 0, 0);
        due.is("loan(1, 0, 1)", x.loan(1, 0, 1), PlateHire.NONE);
        due.is("NONE is ahead of BAD", x.loan(-1, 10, 1), PlateHire.NONE);
        due.is("loan(0, -1, 1)", x.loan(0, -1, 1), PlateHire.BAD);
        due.is("loan(0, 10, 1)", x.loan(0, 10, 1), PlateHire.BAD);
        due.is("loan(0, 0, 0)", x.loan(0, 0, 0), PlateHire.BAD);
        due.is("loan(0, 0, 100000)", x.loan(0, 0, 100000), PlateHire.BAD);
        due.is("count(6)", x.count(6), 0);
        for (int i = 0; i < 30; i++) {
            due.is("loan " + i, x.loan(0, i % 10, 99999), i);
        }
        due.is("BAD is ahead of FULL", x.loan(0, 0, 0), PlateHire.BAD);
        due.is("a 31st loan", x.loan(0, 0, 1), PlateHire.FULL);
        due.is("count(6)", x.count(6), 30);
        due.is("owes(0)", x.owes(0), 2999970);
    }

    private static void owes() {
        PlateHire x = new PlateHire();
        x.plate(0, 0, 0, 0);
        x.plate(0, 0, 0, 0);
        due.is("owes(2)", x.owes(2), PlateHire.NONE);
        due.is("owes(-1)", x.owes(-1), PlateHire.NONE);
        due.is("owes(0)", x.owes(0), 0);
        x.loan(0, 0, 10);
        x.loan(1, 3, 5);
        x.loan(0, 9, 7);
        due.is("owes(0)", x.owes(0), 17);
        due.is("owes(1)", x.owes(1), 5);
    }

    private static void fails() {
        PlateHire x = new PlateHire();
        due.is("no plates", x.fails(1, 0), 0);
        due.is("fails(0, 0)", x.fails(0, 0), PlateHire.BAD);
        due.is("fails(41, 0)", x.fails(41, 0), PlateHire.BAD);
        due.is("fails(1, -1)", x.fails(1, -1), PlateHire.BAD);
        due.is("fails(1, 501)", x.fails(1, 501), PlateHire.BAD);
        for (int p = 0; p < 12; p++) {
            x.plate(0, 0, 100, 0);
        }
        due.is("nothing is owed", x.fails(1, 0), 0);
        x.loan(0, 0, 100);
        x.loan(1, 0, 101);
        x.loan(11, 0, 60);
        x.loan(11, 1, 41);
        x.loan(5, 1, 200);
        due.is("just as much does not fail", x.fails(1, 0), 1 << 1 | 1 << 5 | 1 << 11);
        due.is("two years", x.fails(2, 0), 0);
        due.is("two years at 100", x.fails(2, 100), 1 << 5);
        due.is("all that owe", x.fails(1, 500), 1 | 1 << 1 | 1 << 5 | 1 << 11);
    }

    private static void parts(PlateHire x, String name, int sum, int... parts) {
        for (int i = 0; i < parts.length; i++) {
            due.is(name + ": part(" + i + ", " + sum + ")", x.part(i, sum), parts[i]);
        }
    }

    private static void part() {
        PlateHire x = new PlateHire();
        x.plate(0, 0, 0, 0);
        x.loan(0, 9, 10);
        x.loan(0, 0, 7);
        x.loan(0, 4, 5);
        x.loan(0, 4, 5);
        x.loan(0, 4, 1);
        due.is("part(-1, 0)", x.part(-1, 0), PlateHire.NONE);
        due.is("part(5, 0)", x.part(5, 0), PlateHire.NONE);
        due.is("NONE is ahead of BAD", x.part(5, -1), PlateHire.NONE);
        due.is("part(0, -1)", x.part(0, -1), PlateHire.BAD);
        due.is("part(0, 1000000)", x.part(0, 1000000), PlateHire.BAD);
        parts(x, "nothing", 0, 0, 0, 0, 0, 0);
        parts(x, "rank 0 in part", 6, 0, 6, 0, 0, 0);
        parts(x, "rank 0", 7, 0, 7, 0, 0, 0);
        parts(x, "1 of rank 4", 8, 0, 7, 1, 0, 0);
        parts(x, "2 of rank 4", 9, 0, 7, 1, 1, 0);
        parts(x, "3 of rank 4", 10, 0, 7, 2, 1, 0);
        parts(x, "10 of rank 4", 17, 0, 7, 5, 5, 0);
        parts(x, "all of rank 4", 18, 0, 7, 5, 5, 1);
        parts(x, "rank 9", 19, 1, 7, 5, 5, 1);
        parts(x, "all", 28, 10, 7, 5, 5, 1);
        parts(x, "more", 999999, 10, 7, 5, 5, 1);
    }

    private static void partOnOnePlate() {
        PlateHire x = new PlateHire();
        x.plate(0, 0, 0, 0);
        x.plate(0, 0, 0, 0);
        x.loan(0, 0, 10);
        x.loan(1, 0, 10);
        x.loan(0, 1, 10);
        parts(x, "each on its own plate", 12, 10, 10, 2);
        due.is("asking changes nothing", x.owes(0), 20);
    }

    private static void partOfMuch() {
        PlateHire x = new PlateHire();
        x.plate(0, 0, 0, 0);
        for (int i = 0; i < 11; i++) {
            x.loan(0, 0, 99999);
        }
        // 999999 / 11 is 90909 and none is left over
        parts(x, "eleven great ones", 999999, 90909, 90909, 90909, 90909, 90909);
        parts(x, "eleven great ones, less 1", 999998, 90909, 90909, 90909);
        due.is("the last has one less", x.part(10, 999998), 90908);
    }

    private static void over() {
        PlateHire x = new PlateHire();
        x.plate(0, 0, 0, 0);
        x.loan(0, 1, 10);
        x.loan(0, 0, 10);
        due.is("over(1, 0)", x.over(1, 0), PlateHire.NONE);
        due.is("NONE is ahead of BAD", x.over(-1, -1), PlateHire.NONE);
        due.is("over(0, -1)", x.over(0, -1), PlateHire.BAD);
        due.is("over(0, 1000000)", x.over(0, 1000000), PlateHire.BAD);
        due.is("over(0, 0)", x.over(0, 0), 0);
        due.is("over(0, 19)", x.over(0, 19), 0);
        due.is("over(0, 20)", x.over(0, 20), 0);
        due.is("over(0, 21)", x.over(0, 21), 1);
        due.is("over(0, 999999)", x.over(0, 999999), 999979);
    }

    private static void rescue() {
        PlateHire x = new PlateHire();
        x.plate(0, 0, 101, 0);
        due.is("rescue(1, 0, 1, 0)", x.rescue(1, 0, 1, 0), PlateHire.NONE);
        due.is("NONE is ahead of BAD", x.rescue(1, 101, 1, 0), PlateHire.NONE);
        due.is("rescue(0, -1, 1, 0)", x.rescue(0, -1, 1, 0), PlateHire.BAD);
        due.is("rescue(0, 101, 1, 0)", x.rescue(0, 101, 1, 0), PlateHire.BAD);
        due.is("rescue(0, 0, 0, 0)", x.rescue(0, 0, 0, 0), PlateHire.BAD);
        due.is("rescue(0, 0, 41, 0)", x.rescue(0, 0, 41, 0), PlateHire.BAD);
        due.is("rescue(0, 0, 1, -1)", x.rescue(0, 0, 1, -1), PlateHire.BAD);
        due.is("rescue(0, 0, 1, 501)", x.rescue(0, 0, 1, 501), PlateHire.BAD);
        due.is("nothing is owed", x.rescue(0, 0, 1, 0), PlateHire.STATE);
        x.loan(0, 0, 101);
        due.is("just as much", x.rescue(0, 0, 1, 0), PlateHire.STATE);
        due.is("owes(0)", x.owes(0), 101);
        x.loan(0, 1, 9);
        due.is("half of 101, cut", x.rescue(0, 50, 1, 0), 60);
        due.is("owes(0)", x.owes(0), 50);
        due.is("it does not fail any more", x.rescue(0, 50, 1, 0), PlateHire.STATE);
        x.loan(0, 1, 80);
        due.is("all of 101", x.rescue(0, 100, 1, 0), 29);
        due.is("rank 0 first", x.part(0, 999999), 50);
        due.is("loan 1 had none left", x.part(1, 999999), 0);
        due.is("loan 2", x.part(2, 999999), 51);
        x.loan(0, 0, 1);
        due.is("nothing of it", x.rescue(0, 0, 1, 0), 102);
        due.is("owes(0)", x.owes(0), 0);
        due.is("count(6)", x.count(6), 4);
    }

    private static void rescueShares() {
        PlateHire x = new PlateHire();
        x.plate(0, 0, 10, 0);
        x.plate(0, 0, 10, 0);
        x.loan(0, 0, 20);
        x.loan(1, 0, 50);
        x.loan(0, 0, 20);
        x.loan(0, 0, 20);
        due.is("rescue(0, 100, 1, 0)", x.rescue(0, 100, 1, 0), 50);
        parts(x, "then", 999999, 4, 50, 3, 3);
        due.is("the other plate", x.owes(1), 50);
        // loan 0 is 0 then, and has no share any more
        x.rent(0, 0, 0);
        due.is("all is lost", x.rescue(0, 100, 40, 0), 10);
        x.loan(0, 0, 3);
        x.loan(0, 0, 3);
        parts(x, "sums of 0", 3, 0, 3, 0, 0, 2, 1);
    }

    private static void allLoans() {
        PlateHire x = new PlateHire();
        x.plate(0, 0, 45, 0);
        for (int i = 0; i < 30; i++) {
            x.loan(0, i / 15, 2);
        }
        due.is("the last of rank 0", x.part(14, 29), 1);
        due.is("rank 1 has nothing", x.part(15, 29), 0);
        due.is("the first of rank 1", x.part(15, 31), 1);
        due.is("the last of rank 1", x.part(29, 59), 1);
        due.is("the one ahead of it", x.part(28, 59), 2);
        due.is("all", x.part(29, 60), 2);
        due.is("over", x.over(0, 61), 1);
        due.is("rescue", x.rescue(0, 100, 1, 0), 15);
        due.is("rank 0 is whole", x.part(14, 60), 2);
        due.is("rank 1 is half", x.part(29, 60), 1);
    }
}
