/** Promise 20: owes. */
public final class Promise20OwesTest {
    private static final Due due = new Due("promise 20, owes");

    public static void main(String[] args) {
        noSuchPlate();
        together();
        theMost();
        behindARescue();
        due.end();
    }

    private static void noSuchPlate() {
        due.says("LOANS of a PLATE together. NONE.");
        for (int p : Due.beyond(0, 7)) {
            due.unchanged("owes(" + p + ")", Town::busy, x -> x.owes(p), PlateHire.NONE);
        }
        due.unchanged("owes(12)", Town::full, x -> x.owes(12), PlateHire.NONE);
        due.unchanged("no plates", PlateHire::new, x -> x.owes(0), PlateHire.NONE);
    }

    private static void together() {
        due.says("LOANS of a PLATE together. NONE.");
        PlateHire x = Town.plates(0, 0, 0);
        due.is("no loans", x.owes(0), 0);
        x.loan(0, 0, 10);
        due.is("one", x.owes(0), 10);
        x.loan(2, 3, 5);
        x.loan(0, 9, 7);
        due.is("of all ranks", x.owes(0), 17);
        due.is("of none", x.owes(1), 0);
        due.is("of the last", x.owes(2), 5);
        due.unchanged("a look", () -> Town.owing(3, 4), y -> y.owes(1), 4);
    }

    private static void theMost() {
        due.says("LOANS are numbered from 0 on, 30 at most, each on a PLATE");
        PlateHire x = Town.plates(0, 0, 0, 0, 0, 0, 0, 0, 0, 0, 0, 0);
        for (int i = 0; i < 30; i++) {
            x.loan(11, i % 10, 99999);
        }
        due.is("owes(11)", x.owes(11), 2999970);
        due.is("owes(0)", x.owes(0), 0);
    }

    private static void behindARescue() {
        due.says("each LOAN is just its part then");
        PlateHire x = Town.owing(20, 30);
        x.rent(0, 13, 0);
        due.is("rescue", x.rescue(0, 100, 1, 0), 7);
        due.is("owes(0)", x.owes(0), 13);
        due.is("owes(1)", x.owes(1), 30);
        x.loan(0, 5, 4);
        due.is("and a loan more", x.owes(0), 17);
    }
}
