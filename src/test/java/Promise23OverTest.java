/** Promise 23: over. */
public final class Promise23OverTest {
    private static final Due due = new Due("promise 23, over");

    public static void main(String[] args) {
        noSuchPlate();
        whichSums();
        noneAheadOfBad();
        leftOver();
        withPartsItIsAll();
        due.end();
    }

    private static void noSuchPlate() {
        due.says("What would be left over of it. NONE; BAD.");
        for (int p : Due.beyond(0, 7)) {
            due.unchanged("over(" + p + ", 1)", Town::busy, x -> x.over(p, 1), PlateHire.NONE);
        }
        due.unchanged("over(12, 1)", Town::full, x -> x.over(12, 1), PlateHire.NONE);
        due.unchanged("no plates", PlateHire::new, x -> x.over(0, 1), PlateHire.NONE);
    }

    private static void whichSums() {
        due.says("What would be left over of it. NONE; BAD.");
        for (int sum : Due.beyond(0, 999999)) {
            due.unchanged("over(0, " + sum + ")", Town::busy, x -> x.over(0, sum), PlateHire.BAD);
        }
        PlateHire x = Town.plates(0);
        due.is("nothing, and no loans", x.over(0, 0), 0);
        due.is("1, and no loans", x.over(0, 1), 1);
        due.is("all, and no loans", x.over(0, 999999), 999999);
    }

    private static void noneAheadOfBad() {
        due.says("REFUSALS, of several the first one told: NONE there is no such PLATE, DRIVER, SHIFT, WARD, LOAN");
        due.unchanged("both", Town::busy, x -> x.over(8, -1), PlateHire.NONE);
        due.unchanged("both", Town::full, x -> x.over(-1, 1000000), PlateHire.NONE);
    }

    private static void leftOver() {
        due.says("What would be left over of it. NONE; BAD.");
        PlateHire x = Town.plates(0, 0);
        x.loan(0, 1, 10);
        x.loan(1, 1, 500);
        x.loan(0, 0, 10);
        int[] sums = {0, 1, 10, 19, 20, 21, 999999};
        int[] over = {0, 0, 0, 0, 0, 1, 999979};
        for (int i = 0; i < sums.length; i++) {
            due.is("over(0, " + sums[i] + ")", x.over(0, sums[i]), over[i]);
        }
        due.is("the other plate", x.over(1, 501), 1);
        due.unchanged("a look", () -> Town.owing(5, 6), y -> y.over(1, 10), 4);
        x = Town.plates(0);
        for (int i = 0; i < 30; i++) {
            x.loan(0, i % 10, 99999);
        }
        due.is("far below what is owed", x.over(0, 999999), 0);
        x = Town.owing(9);
        x.rescue(0, 0, 1, 0);
        due.is("nothing is owed any more", x.over(0, 5), 5);
    }

    private static void withPartsItIsAll() {
        due.says("What would be left over of it. NONE; BAD.");
        PlateHire x = Town.plates(0);
        int[][] loans = {{3, 17}, {0, 5}, {3, 4}, {9, 1}, {0, 8}};
        for (int[] loan : loans) {
            x.loan(0, loan[0], loan[1]);
        }
        for (int sum = 0; sum <= 40; sum++) {
            int all = x.over(0, sum);
            for (int i = 0; i < loans.length; i++) {
                all += x.part(i, sum);
            }
            due.is("parts of " + sum + " and what is left over", all, sum);
        }
    }
}
