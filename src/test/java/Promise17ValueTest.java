/** Promise 17: value. */
public final class Promise17ValueTest {
    private static final Due due = new Due("promise 17, value");

    public static void main(String[] args) {
        noSuchPlate();
        howManyYears();
        whichRate();
        noneAheadOfBad();
        cut();
        neverBelowNought();
        ramp();
        theMost();
        due.end();
    }

    private static PlateHire gaining(int kind, int lease, int cost) {
        PlateHire x = new PlateHire();
        x.plate(kind, 0, lease, cost);
        return x;
    }

    private static void noSuchPlate() {
        due.says("WORTH. NONE; BAD.");
        for (int p : Due.beyond(0, 7)) {
            due.unchanged("value(" + p + ", 1, 0)", Town::busy, x -> x.value(p, 1, 0), PlateHire.NONE);
        }
        due.unchanged("value(12, 40, 500)", Town::full, x -> x.value(12, 40, 500), PlateHire.NONE);
        due.unchanged("the last", Town::full, x -> x.value(11, 1, 0), 9999 - 11 - 5011);
    }

    private static void howManyYears() {
        due.says("WORTH of a PLATE by years (1 .. 40) and a rate (0 .. 500 thousandths)");
        for (int years : Due.beyond(1, 40)) {
            due.unchanged("value(0, " + years + ", 0)", Town::busy, x -> x.value(0, years, 0), PlateHire.BAD);
        }
        PlateHire x = gaining(0, 1000, 1);
        for (int years = 1; years <= 40; years++) {
            due.is("value(0, " + years + ", 0)", x.value(0, years, 0), 999 * years);
        }
    }

    private static void whichRate() {
        due.says("WORTH of a PLATE by years (1 .. 40) and a rate (0 .. 500 thousandths)");
        for (int rate : Due.beyond(0, 500)) {
            due.unchanged("value(0, 1, " + rate + ")", Town::busy, x -> x.value(0, 1, rate), PlateHire.BAD);
        }
        PlateHire x = gaining(0, 3000, 0);
        due.is("rate 0", x.value(0, 1, 0), 3000);
        due.is("rate 1", x.value(0, 1, 1), 2997);
        due.is("rate 499", x.value(0, 1, 499), 2001);
        due.is("rate 500", x.value(0, 1, 500), 2000);
    }

    private static void noneAheadOfBad() {
        due.says("REFUSALS, of several the first one told: NONE there is no such PLATE, DRIVER, SHIFT, WARD, LOAN");
        due.unchanged("plate and years", Town::busy, x -> x.value(8, 0, 0), PlateHire.NONE);
        due.unchanged("plate and rate", Town::busy, x -> x.value(-1, 1, 501), PlateHire.NONE);
        due.unchanged("years and rate", Town::busy, x -> x.value(0, 41, -1), PlateHire.BAD);
    }

    private static void cut() {
        due.says("what is behind and a year's gain (LEASE as it counts, less COST) times 1000 by 1000 and the rate, cut");
        PlateHire x = gaining(0, 1000, 0);
        due.is("a year at 100", x.value(0, 1, 100), 909);
        due.is("two years at 100, cut each", x.value(0, 2, 100), 1735);
        due.is("three years at 100", x.value(0, 3, 100), 2486);
        due.is("a year at 500", x.value(0, 1, 500), 666);
        due.is("two years at 500", x.value(0, 2, 500), 1110);
        x = gaining(0, 1, 0);
        due.is("1 at 0", x.value(0, 1, 0), 1);
        due.is("1 at 1 is cut to nothing", x.value(0, 1, 1), 0);
        due.is("1 at 1, however often", x.value(0, 40, 1), 0);
        due.is("1 at 0 in 40 years", x.value(0, 40, 0), 40);
    }

    private static void neverBelowNought() {
        due.says("never below 0");
        due.is("nothing", gaining(0, 7, 7).value(0, 40, 0), 0);
        due.is("1", gaining(0, 8, 7).value(0, 1, 0), 1);
        due.is("-1", gaining(0, 7, 8).value(0, 1, 0), 0);
        due.is("-1 in 40 years", gaining(0, 7, 8).value(0, 40, 0), 0);
        due.is("-9999", gaining(0, 0, 9999).value(0, 1, 0), 0);
        due.is("-9999 at 500 in 40 years", gaining(0, 0, 9999).value(0, 40, 500), 0);
        due.is("-9999 at 0 in 40 years", gaining(2, 0, 9999).value(0, 40, 0), 0);
    }

    private static void ramp() {
        due.says("its LEASE counts as nine tenths of what is told, cut");
        int[] told = {0, 1, 2, 9, 10, 11, 19, 20, 1019, 9999};
        int[] counts = {0, 0, 1, 8, 9, 9, 17, 18, 917, 8999};
        for (int i = 0; i < told.length; i++) {
            due.is("ramp " + told[i], gaining(2, told[i], 0).value(0, 1, 0), counts[i]);
            for (int kind : new int[] {0, 1, 3}) {
                due.is("kind " + kind + ", " + told[i], gaining(kind, told[i], 0).value(0, 1, 0), told[i]);
            }
        }
        due.is("less the whole cost", gaining(2, 1019, 17).value(0, 1, 0), 900);
        due.is("below its cost", gaining(2, 100, 91).value(0, 1, 0), 0);
        due.is("at its cost", gaining(2, 100, 90).value(0, 1, 0), 0);
        due.is("above its cost", gaining(2, 100, 89).value(0, 1, 0), 1);
    }

    private static void theMost() {
        due.says("from the last year back");
        PlateHire x = gaining(0, 9999, 0);
        due.is("40 years at 0", x.value(0, 40, 0), 399960);
        due.is("40 years at 1", x.value(0, 40, 1), 391857);
        long worth = 0;
        for (int years = 1; years <= 40; years++) {
            worth = (worth + 9999) * 1000 / 1500;
            due.is(years + " years at 500", x.value(0, years, 500), worth);
        }
    }
}
