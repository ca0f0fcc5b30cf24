/** Promise 2: plate. */
public final class Promise02PlateTest {
    private static final Due due = new Due("promise 2, plate");

    public static void main(String[] args) {
        numbers();
        full();
        kinds();
        owners();
        leasesAndCosts();
        badAheadOfFull();
        anewPlate();
        due.end();
    }

    private static void numbers() {
        due.says("PLATES are numbered from 0 on, 12 at most");
        PlateHire x = new PlateHire();
        for (int p = 0; p < 12; p++) {
            due.is("no plate " + p + " yet", x.about(p, 0), PlateHire.NONE);
            due.is("plate " + p, x.plate(p % 4, p % 6, 0, 0), p);
            due.is("count(0)", x.count(0), p + 1);
        }
        for (int p = 0; p < 12; p++) {
            due.is("kind of " + p, x.about(p, 0), p % 4);
            due.is("owner of " + p, x.about(p, 1), p % 6);
        }
    }

    private static void full() {
        due.says("A PLATE more: its number. BAD; FULL.");
        due.unchanged("a 13th plate", Town::full, x -> x.plate(0, 0, 0, 0), PlateHire.FULL);
        PlateHire x = Town.plates(0, 0, 0, 0, 0, 0, 0, 0, 0, 0, 0);
        due.is("the 12th", x.plate(3, 5, 9999, 9999), 11);
        due.is("a 13th", x.plate(3, 5, 9999, 9999), PlateHire.FULL);
        due.is("a 13th again", x.plate(0, 0, 0, 0), PlateHire.FULL);
        due.is("count(0)", x.count(0), 12);
        due.is("about(12, 0)", x.about(12, 0), PlateHire.NONE);
    }

    private static void kinds() {
        due.says("0 PLAIN; 1 OWNED: 5 HOURS must be driven by it; 2 RAMP");
        for (int kind : Due.beyond(0, 3)) {
            due.unchanged("kind " + kind, Town::busy, x -> x.plate(kind, 0, 0, 0), PlateHire.BAD);
        }
        int[] hoursDue = {0, 5, 0, 0};
        int[] leaseCounts = {100, 100, 90, 100};
        int[] standsInNought = {-1, -1, -1, PlateHire.STATE};
        for (int kind = 0; kind <= 3; kind++) {
            PlateHire x = new PlateHire();
            due.is("kind " + kind, x.plate(kind, 0, 100, 0), 0);
            due.is("its kind", x.about(0, 0), kind);
            due.is("hours due of kind " + kind, x.about(0, 7), hoursDue[kind]);
            due.is("what the lease counts, of kind " + kind, x.value(0, 1, 0), leaseCounts[kind]);
            due.is("ward 0 for kind " + kind, x.stand(0, 0), standsInNought[kind]);
        }
    }

    private static void owners() {
        due.says("each of a KIND, with an OWNER (0 ..");
        due.says("5), a LEASE and a COST (0 .. 9999 a year)");
        for (int owner : Due.beyond(0, 5)) {
            due.unchanged("owner " + owner, Town::busy, x -> x.plate(0, owner, 0, 0), PlateHire.BAD);
        }
        PlateHire x = new PlateHire();
        for (int owner = 0; owner <= 5; owner++) {
            due.is("owner " + owner, x.plate(0, owner, 0, 0), owner);
            due.is("its owner", x.about(owner, 1), owner);
        }
    }

    private static void leasesAndCosts() {
        due.says("5), a LEASE and a COST (0 .. 9999 a year)");
        for (int money : Due.beyond(0, 9999)) {
            due.unchanged("lease " + money, Town::busy, x -> x.plate(0, 0, money, 0), PlateHire.BAD);
            due.unchanged("cost " + money, Town::busy, x -> x.plate(0, 0, 0, money), PlateHire.BAD);
        }
        int[][] taken = {{0, 0}, {9999, 0}, {9999, 9999}, {0, 9999}, {9998, 1}};
        for (int[] t : taken) {
            PlateHire x = new PlateHire();
            due.is("lease " + t[0] + ", cost " + t[1], x.plate(0, 0, t[0], t[1]), 0);
            due.is("what it gains", x.value(0, 1, 0), Math.max(0, t[0] - t[1]));
            due.is("the lease", x.rent(0, 9999, t[1]), t[0]);
            due.is("the cost is as it was told", x.value(0, 1, 0), 9999 - t[1]);
        }
    }

    private static void badAheadOfFull() {
        due.says("REFUSALS, of several the first one told");
        due.unchanged("kind 4 of a 13th", Town::full, x -> x.plate(4, 0, 0, 0), PlateHire.BAD);
        due.unchanged("owner 6 of a 13th", Town::full, x -> x.plate(0, 6, 0, 0), PlateHire.BAD);
        due.unchanged("lease 10000 of a 13th", Town::full, x -> x.plate(0, 0, 10000, 0), PlateHire.BAD);
        due.unchanged("cost -1 of a 13th", Town::full, x -> x.plate(0, 0, 0, -1), PlateHire.BAD);
        due.unchanged("all is wrong", Town::full, x -> x.plate(-1, -1, -1, -1), PlateHire.BAD);
    }

    /** A plate that comes late has nothing of the others. */
    private static void anewPlate() {
        due.says("A CAB is a PLATE that stands in a WARD (nowhere at first)");
        PlateHire x = Town.busy();
        due.is("the ninth", x.plate(0, 4, 50, 20), 8);
        int[] first = {0, 4, -1, -1, 0, 0, -1, 0};
        for (int what = 0; what < 8; what++) {
            due.is("about(8, " + what + ")", x.about(8, what), first[what]);
        }
        due.is("owes(8)", x.owes(8), 0);
        due.is("leave(8)", x.leave(8), PlateHire.STATE);
    }
}
