/** Promise 18: rent. */
public final class Promise18RentTest {
    private static final Due due = new Due("promise 18, rent");

    public static void main(String[] args) {
        noSuchPlate();
        leases();
        costs();
        noneAheadOfBad();
        whatWasTold();
        thatPlateOnly();
        due.end();
    }

    private static void noSuchPlate() {
        due.says("LEASE and COST of a PLATE are told anew: the LEASE that was told. NONE; BAD.");
        for (int p : Due.beyond(0, 7)) {
            due.unchanged("rent(" + p + ", 1, 1)", Town::busy, x -> x.rent(p, 1, 1), PlateHire.NONE);
        }
        due.unchanged("rent(12, 0, 0)", Town::full, x -> x.rent(12, 0, 0), PlateHire.NONE);
        due.unchanged("rent(0, 0, 0)", PlateHire::new, x -> x.rent(0, 0, 0), PlateHire.NONE);
    }

    private static void leases() {
        due.says("5), a LEASE and a COST (0 .. 9999 a year)");
        for (int lease : Due.beyond(0, 9999)) {
            due.unchanged("rent(0, " + lease + ", 5)", Town::busy, x -> x.rent(0, lease, 5), PlateHire.BAD);
        }
        PlateHire x = Town.plates(0);
        due.is("lease 9999", x.rent(0, 9999, 0), 0);
        due.is("value", x.value(0, 1, 0), 9999);
        due.is("lease 0", x.rent(0, 0, 0), 9999);
        due.is("value", x.value(0, 1, 0), 0);
        due.is("the lease is 0", x.rent(0, 1, 0), 0);
    }

    private static void costs() {
        due.says("5), a LEASE and a COST (0 .. 9999 a year)");
        for (int cost : Due.beyond(0, 9999)) {
            due.unchanged("rent(0, 5, " + cost + ")", Town::busy, x -> x.rent(0, 5, cost), PlateHire.BAD);
        }
        PlateHire x = Town.plates(0);
        due.is("cost 9999", x.rent(0, 9999, 9999), 0);
        due.is("value", x.value(0, 1, 0), 0);
        due.is("cost 9998", x.rent(0, 9999, 9998), 9999);
        due.is("value", x.value(0, 1, 0), 1);
        due.is("cost 0", x.rent(0, 9998, 0), 9999);
        due.is("value", x.value(0, 1, 0), 9998);
    }

    private static void noneAheadOfBad() {
        due.says("REFUSALS, of several the first one told: NONE there is no such PLATE, DRIVER, SHIFT, WARD, LOAN");
        due.unchanged("plate and lease", Town::busy, x -> x.rent(8, 10000, 0), PlateHire.NONE);
        due.unchanged("plate and cost", Town::busy, x -> x.rent(-1, 0, -1), PlateHire.NONE);
        due.unchanged("lease and cost", Town::busy, x -> x.rent(0, 10000, -1), PlateHire.BAD);
    }

    private static void whatWasTold() {
        due.says("the LEASE that was told");
        PlateHire x = new PlateHire();
        x.plate(2, 0, 1005, 4);
        due.is("of a ramp as it was told, not as it counts", x.rent(0, 9999, 9), 1005);
        due.is("value", x.value(0, 1, 0), 8990);
        due.is("again", x.rent(0, 0, 9999), 9999);
        due.is("value", x.value(0, 1, 0), 0);
        due.is("again", x.rent(0, 10, 0), 0);
        due.is("value", x.value(0, 1, 0), 9);
    }

    private static void thatPlateOnly() {
        due.says("LEASE and COST of a PLATE are told anew");
        PlateHire x = Town.plates(0, 0, 0, 0, 0, 0, 0, 0, 0, 0, 0, 0);
        due.is("the last one's", x.rent(11, 700, 1), 0);
        due.is("the first one's", x.rent(0, 40, 2), 0);
        for (int p = 0; p < 12; p++) {
            due.is("value of " + p, x.value(p, 1, 0), p == 11 ? 699 : p == 0 ? 38 : 0);
        }
        due.is("kind and owner stay", x.about(11, 0) + x.about(11, 1), 0);
    }
}
