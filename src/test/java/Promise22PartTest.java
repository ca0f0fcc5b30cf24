/** Promise 22: part. */
public final class Promise22PartTest {
    private static final Due due = new Due("promise 22, part");

    public static void main(String[] args) {
        noSuchLoan();
        whichSums();
        noneAheadOfBad();
        rankByRank();
        sharesInARank();
        oneMoreEach();
        noneMoreThanItsSum();
        eachOnItsOwnPlate();
        whateverWasAskedBefore();
        greatNumbers();
        allLoans();
        due.end();
    }

    private static void parts(PlateHire x, String name, int sum, int... parts) {
        for (int i = 0; i < parts.length; i++) {
            due.is(name + ": part(" + i + ", " + sum + ")", x.part(i, sum), parts[i]);
        }
    }

    private static PlateHire loans(int... ranksAndSums) {
        PlateHire x = Town.plates(0);
        for (int i = 0; i < ranksAndSums.length; i += 2) {
            x.loan(0, ranksAndSums[i], ranksAndSums[i + 1]);
        }
        return x;
    }

    private static void noSuchLoan() {
        due.says("What a LOAN would have of a sum (0 .. 999999) that is PARTED among its PLATE's. NONE; BAD.");
        for (int loan : Due.beyond(0, 6)) {
            due.unchanged("part(" + loan + ", 0)", Town::busy, x -> x.part(loan, 0), PlateHire.NONE);
        }
        due.unchanged("part(30, 1)", Town::full, x -> x.part(30, 1), PlateHire.NONE);
        due.unchanged("no loans", () -> Town.plates(0), x -> x.part(0, 1), PlateHire.NONE);
        due.unchanged("the first", Town::full, x -> x.part(0, 999999), 99999);
        due.unchanged("the last", Town::full, x -> x.part(29, 999999), 99970);
    }

    private static void whichSums() {
        due.says("What a LOAN would have of a sum (0 .. 999999) that is PARTED among its PLATE's. NONE; BAD.");
        for (int sum : Due.beyond(0, 999999)) {
            due.unchanged("part(0, " + sum + ")", Town::busy, x -> x.part(0, sum), PlateHire.BAD);
        }
        PlateHire x = loans(0, 7);
        due.is("of nothing", x.part(0, 0), 0);
        due.is("of 1", x.part(0, 1), 1);
        due.is("of 6", x.part(0, 6), 6);
        due.is("of 7", x.part(0, 7), 7);
        due.is("of 8", x.part(0, 8), 7);
        due.is("of 999999", x.part(0, 999999), 7);
    }

    private static void noneAheadOfBad() {
        due.says("REFUSALS, of several the first one told: NONE there is no such PLATE, DRIVER, SHIFT, WARD, LOAN");
        due.unchanged("both", Town::busy, x -> x.part(7, -1), PlateHire.NONE);
        due.unchanged("both", Town::full, x -> x.part(-1, 1000000), PlateHire.NONE);
    }

    private static void rankByRank() {
        due.says("RANK 0 first, up to its sums, then 1, and so on");
        PlateHire x = loans(9, 10, 0, 7, 4, 5, 1, 3);
        parts(x, "nothing", 0, 0, 0, 0, 0);
        parts(x, "rank 0 in part", 6, 0, 6, 0, 0);
        parts(x, "rank 0", 7, 0, 7, 0, 0);
        parts(x, "rank 1 begins", 8, 0, 7, 0, 1);
        parts(x, "rank 1", 10, 0, 7, 0, 3);
        parts(x, "rank 4 begins", 11, 0, 7, 1, 3);
        parts(x, "rank 4", 15, 0, 7, 5, 3);
        parts(x, "rank 9 begins", 16, 1, 7, 5, 3);
        parts(x, "rank 9 but 1", 24, 9, 7, 5, 3);
        parts(x, "all", 25, 10, 7, 5, 3);
        parts(x, "more", 26, 10, 7, 5, 3);
        parts(loans(9, 4), "the last rank alone", 3, 3);
    }

    private static void sharesInARank() {
        due.says("in a RANK for which there is not enough each has that times its sum by all sums of the RANK, cut");
        PlateHire x = loans(0, 30, 0, 60, 0, 10);
        parts(x, "half", 50, 15, 30, 5);
        parts(x, "a tenth", 10, 3, 6, 1);
        parts(x, "all but a tenth", 90, 27, 54, 9);
        parts(x, "just enough", 100, 30, 60, 10);
        x = loans(0, 100, 1, 3000, 1, 1001);
        parts(x, "behind a rank that is paid", 1100, 100, 750, 250);
        parts(x, "the rank ahead is not enough itself", 99, 99, 0, 0);
    }

    private static void oneMoreEach() {
        due.says("then 1 more each, by numbers, as far as it goes (none more than its sum)");
        PlateHire x = loans(4, 5, 4, 5, 4, 1);
        parts(x, "1", 1, 1, 0, 0);
        parts(x, "2", 2, 1, 1, 0);
        parts(x, "3", 3, 2, 1, 0);
        parts(x, "4", 4, 2, 2, 0);
        parts(x, "10", 10, 5, 5, 0);
        parts(x, "11", 11, 5, 5, 1);
        x = loans(0, 1, 0, 1, 0, 1);
        parts(x, "1 of three alike", 1, 1, 0, 0);
        parts(x, "2 of three alike", 2, 1, 1, 0);
        parts(x, "3 of three alike", 3, 1, 1, 1);
        // loans of other ranks and plates lie between
        x = loans(2, 1, 0, 1, 2, 1, 1, 1, 2, 1);
        parts(x, "2 of rank 2", 4, 1, 1, 1, 1, 0);
    }

    private static void noneMoreThanItsSum() {
        due.says("then 1 more each, by numbers, as far as it goes (none more than its sum)");
        PlateHire x = loans(0, 20, 0, 20, 0, 20);
        x.rescue(0, 0, 1, 0);
        x.loan(0, 0, 3);
        x.loan(0, 0, 3);
        parts(x, "loans of nothing have none", 3, 0, 0, 0, 2, 1);
        parts(x, "loans of nothing have none", 5, 0, 0, 0, 3, 2);
        parts(x, "loans of nothing have none", 7, 0, 0, 0, 3, 3);
        x = Town.owing(9);
        x.rescue(0, 0, 1, 0);
        parts(x, "nothing is owed", 5, 0);
    }

    private static void eachOnItsOwnPlate() {
        due.says("A sum is PARTED among a PLATE's LOANS");
        PlateHire x = Town.plates(0, 0);
        x.loan(0, 0, 10);
        x.loan(1, 0, 10);
        x.loan(0, 1, 10);
        parts(x, "each on its own plate", 12, 10, 10, 2);
        due.is("asking changes nothing", x.owes(0), 20);
        due.is("asking changes nothing", x.owes(1), 10);
    }

    /** Nothing of an earlier, greater sum is left in a smaller one's parts. */
    private static void whateverWasAskedBefore() {
        due.says("What a LOAN would have of a sum (0 .. 999999) that is PARTED among its PLATE's. NONE; BAD.");
        for (int size = 1; size <= 3; size++) {
            PlateHire x = loans(0, size, 5, size, 9, size);
            for (int sum = 3 * size; sum >= 0; sum--) {
                parts(x, "of " + 3 * size, 3 * size, size, size, size);
                int second = Math.max(0, Math.min(size, sum - size));
                parts(x, "then of less", sum, Math.min(size, sum), second, Math.max(0, sum - 2 * size));
            }
        }
        PlateHire x = Town.owing(1, 1);
        due.is("of 5", x.part(0, 5), 1);
        due.is("the other plate's of 0", x.part(1, 0), 0);
        due.is("of 0", x.part(0, 0), 0);
        due.is("the other plate's of 1", x.part(1, 1), 1);
    }

    private static void greatNumbers() {
        due.says("What a LOAN would have of a sum (0 .. 999999) that is PARTED among its PLATE's. NONE; BAD.");
        PlateHire x = Town.plates(0);
        for (int i = 0; i < 11; i++) {
            x.loan(0, 0, 99999);
        }
        // 999999 / 11 is 90909 and none is left over
        parts(x, "eleven great ones", 999999, 90909, 90909, 90909, 90909, 90909, 90909, 90909, 90909, 90909, 90909, 90909);
        parts(x, "less 1", 999998, 90909, 90909, 90909, 90909, 90909, 90909, 90909, 90909, 90909, 90909, 90908);
        parts(loans(0, 99999, 0, 1), "a great one and a small one", 99999, 99999, 0);
        parts(loans(0, 1, 0, 99999), "a small one and a great one", 99999, 1, 99998);
        parts(loans(0, 99999, 0, 99999), "half of two great ones", 99999, 50000, 49999);
    }

    private static void allLoans() {
        due.says("RANK 0 first, up to its sums, then 1, and so on");
        PlateHire x = Town.plates(0);
        for (int i = 0; i < 30; i++) {
            x.loan(0, i / 15, 2);
        }
        due.is("the last of rank 0", x.part(14, 29), 1);
        due.is("rank 1 has nothing", x.part(15, 29), 0);
        due.is("rank 1 has nothing", x.part(15, 30), 0);
        due.is("the first of rank 1", x.part(15, 31), 1);
        due.is("the second of rank 1", x.part(16, 31), 0);
        due.is("the last of rank 1", x.part(29, 59), 1);
        due.is("the one ahead of it", x.part(28, 59), 2);
        due.is("all", x.part(29, 60), 2);
    }
}
