/** Promise 26: unswap. */
public final class Promise26UnswapTest {
    private static final Due due = new Due("promise 26, unswap");

    public static void main(String[] args) {
        howManyThereWere();
        noneAnyMore();
        restStays();
        due.end();
    }

    private static void howManyThereWere() {
        due.says("There are no fleets any more: how many there were.");
        for (int n = 0; n <= 6; n++) {
            PlateHire x = new PlateHire();
            for (int i = 0; i < n; i++) {
                x.swap(1 + i);
            }
            due.is("of " + n, x.unswap(), n);
            due.is("count(8)", x.count(8), 0);
            due.is("once more", x.unswap(), 0);
        }
        due.unchanged("no fleets", PlateHire::new, PlateHire::unswap, 0);
    }

    private static void noneAnyMore() {
        due.says("There are no fleets any more: how many there were.");
        PlateHire x = Town.fleets(1, 1, 1, 1, 1, 1);
        x.ask(12, 0, 9);
        x.unswap();
        due.is("spread(0)", x.spread(0), 0);
        due.is("spread(1)", x.spread(1), 0);
        due.is("spread(2)", x.spread(2), PlateHire.NONE);
        due.is("spread(7)", x.spread(7), PlateHire.NONE);
        due.is("from 0 on again", x.swap(4), 0);
        due.is("in its hour alone", x.spread(0), 1);
        due.is("spread(2)", x.spread(2), 14);
        due.is("spread(3)", x.spread(3), PlateHire.NONE);
    }

    private static void restStays() {
        due.says("There are no fleets any more: how many there were.");
        for (int view = 0; view < Views.COUNT; view++) {
            PlateHire x = Town.busy();
            due.is("unswap()", x.unswap(), 3);
            x.swap(7);
            x.swap(3);
            x.swap(130);
            due.same("the same fleets again", x, Town.busy(), view);
        }
    }
}
