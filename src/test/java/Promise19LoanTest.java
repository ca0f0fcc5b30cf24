/** Promise 19: loan. */
public final class Promise19LoanTest {
    private static final Due due = new Due("promise 19, loan");

    public static void main(String[] args) {
        noSuchPlate();
        ranks();
        sums();
        numbers();
        full();
        inOrder();
        emptyLoansCountToo();
        due.end();
    }

    private static void noSuchPlate() {
        due.says("A LOAN: its number. NONE; BAD; FULL.");
        for (int p : Due.beyond(0, 7)) {
            due.unchanged("loan(" + p + ", 0, 1)", Town::busy, x -> x.loan(p, 0, 1), PlateHire.NONE);
        }
        due.unchanged("no plates", PlateHire::new, x -> x.loan(0, 0, 1), PlateHire.NONE);
    }

    private static void ranks() {
        due.says("with a RANK (0 .. 9) and a sum (1 .. 99999 at first)");
        for (int rank : Due.beyond(0, 9)) {
            due.unchanged("loan(0, " + rank + ", 1)", Town::busy, x -> x.loan(0, rank, 1), PlateHire.BAD);
        }
        PlateHire x = Town.plates(0);
        for (int rank = 9; rank >= 0; rank--) {
            due.is("rank " + rank, x.loan(0, rank, 1), 9 - rank);
        }
        for (int sum = 0; sum <= 10; sum++) {
            for (int rank = 0; rank < 10; rank++) {
                due.is("of " + sum + " rank " + rank + " has", x.part(9 - rank, sum), rank < sum ? 1 : 0);
            }
        }
    }

    private static void sums() {
        due.says("with a RANK (0 .. 9) and a sum (1 .. 99999 at first)");
        for (int sum : Due.beyond(1, 99999)) {
            due.unchanged("loan(0, 0, " + sum + ")", Town::busy, x -> x.loan(0, 0, sum), PlateHire.BAD);
        }
        PlateHire x = Town.plates(0);
        due.is("1", x.loan(0, 0, 1), 0);
        due.is("99999", x.loan(0, 9, 99999), 1);
        due.is("owes(0)", x.owes(0), 100000);
    }

    private static void numbers() {
        due.says("LOANS are numbered from 0 on, 30 at most, each on a PLATE");
        PlateHire x = Town.plates(0, 0, 0, 0, 0, 0, 0, 0, 0, 0, 0, 0);
        for (int i = 0; i < 30; i++) {
            due.is("loan " + i, x.loan(i % 12, 0, 100 + i), i);
            due.is("count(6)", x.count(6), i + 1);
            due.is("its part of all", x.part(i, 999999), 100 + i);
        }
        due.is("owes(0)", x.owes(0), 100 + 112 + 124);
        due.is("owes(11)", x.owes(11), 111 + 123);
        due.is("part(29, 999999)", x.part(29, 999999), 129);
        due.is("part(30, 999999)", x.part(30, 999999), PlateHire.NONE);
    }

    private static void full() {
        due.says("LOANS are numbered from 0 on, 30 at most, each on a PLATE");
        for (int p = 0; p < 12; p += 11) {
            int q = p;
            due.unchanged("a 31st loan on " + p, Town::full, x -> x.loan(q, 0, 1), PlateHire.FULL);
        }
        PlateHire x = Town.plates(0);
        for (int i = 0; i < 29; i++) {
            x.loan(0, i % 10, 99999);
        }
        due.is("the 30th", x.loan(0, 9, 99999), 29);
        due.is("a 31st", x.loan(0, 9, 99999), PlateHire.FULL);
        due.is("count(6)", x.count(6), 30);
        due.is("owes(0)", x.owes(0), 2999970);
    }

    private static void inOrder() {
        due.says("A LOAN: its number. NONE; BAD; FULL.");
        due.unchanged("plate and rank", Town::busy, x -> x.loan(8, 10, 1), PlateHire.NONE);
        due.unchanged("plate and sum", Town::busy, x -> x.loan(-1, 0, 0), PlateHire.NONE);
        due.unchanged("rank and sum", Town::busy, x -> x.loan(0, -1, 0), PlateHire.BAD);
        due.unchanged("plate of a 31st", Town::full, x -> x.loan(12, 0, 1), PlateHire.NONE);
        due.unchanged("plate and sum of a 31st", Town::full, x -> x.loan(-1, 0, 0), PlateHire.NONE);
        due.unchanged("rank of a 31st", Town::full, x -> x.loan(0, 10, 1), PlateHire.BAD);
        due.unchanged("sum of a 31st", Town::full, x -> x.loan(0, 0, 100000), PlateHire.BAD);
    }

    /** A rescue may leave a loan of nothing; it keeps its number. */
    private static void emptyLoansCountToo() {
        due.says("and a sum (1 .. 99999 at first)");
        PlateHire x = Town.plates(0);
        for (int i = 0; i < 30; i++) {
            x.loan(0, 0, 5);
        }
        due.is("all is lost", x.rescue(0, 100, 1, 0), 150);
        due.is("owes(0)", x.owes(0), 0);
        due.is("count(6)", x.count(6), 30);
        due.is("full still", x.loan(0, 0, 5), PlateHire.FULL);
        x = Town.plates(0);
        x.loan(0, 0, 5);
        x.rescue(0, 100, 1, 0);
        due.is("the next number", x.loan(0, 0, 5), 1);
    }
}
