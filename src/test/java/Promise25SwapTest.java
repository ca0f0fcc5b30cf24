/** Promise 25: swap. */
public final class Promise25SwapTest {
    private static final Due due = new Due("promise 25, swap");

    public static void main(String[] args) {
        whichSets();
        eachBit();
        numbers();
        full();
        fromNoughtAgain();
        due.end();
    }

    private static void whichSets() {
        due.says("A fleet more (set 1 .. 255): its number. BAD; FULL.");
        for (int set : Due.beyond(1, 255)) {
            due.unchanged("swap(" + set + ")", Town::busy, x -> x.swap(set), PlateHire.BAD);
            due.unchanged("the first, swap(" + set + ")", PlateHire::new, x -> x.swap(set), PlateHire.BAD);
        }
        for (int set = 1; set <= 255; set++) {
            PlateHire x = new PlateHire();
            due.is("swap(" + set + ")", x.swap(set), 0);
            due.is("its least hour", x.spread(2), 12 + Integer.numberOfTrailingZeros(set));
        }
    }

    private static void eachBit() {
        due.says("each with a set of hours (bits: bit i is hour 12 + i, i 0 .. 7) of which it takes one");
        for (int i = 0; i <= 7; i++) {
            PlateHire x = Town.fleets(1 << i);
            due.is("bit " + i, x.spread(2), 12 + i);
            for (int hour = 0; hour < 24; hour++) {
                x.ask(hour, hour % 5, 1 + hour % 20);
            }
            due.is("asks of bit " + i, x.spread(1), 13 + i);
        }
    }

    private static void numbers() {
        due.says("CHANGEOVER: fleets, 6 at most");
        PlateHire x = new PlateHire();
        for (int fleet = 0; fleet < 6; fleet++) {
            due.is("no fleet " + fleet + " yet", x.spread(fleet + 2), PlateHire.NONE);
            due.is("fleet " + fleet, x.swap(1 << fleet), fleet);
            due.is("count(8)", x.count(8), fleet + 1);
            due.is("its hour", x.spread(fleet + 2), 12 + fleet);
        }
        due.is("no fleet 6", x.spread(8), PlateHire.NONE);
    }

    private static void full() {
        due.says("A fleet more (set 1 .. 255): its number. BAD; FULL.");
        due.unchanged("a seventh", Town::full, x -> x.swap(1), PlateHire.FULL);
        due.unchanged("a seventh", Town::full, x -> x.swap(255), PlateHire.FULL);
        for (int set : Due.beyond(1, 255)) {
            due.unchanged("a wrong seventh", Town::full, x -> x.swap(set), PlateHire.BAD);
        }
        PlateHire x = Town.fleets(1, 1, 1, 1, 1);
        due.is("the sixth", x.swap(255), 5);
        due.is("a seventh", x.swap(255), PlateHire.FULL);
        due.is("count(8)", x.count(8), 6);
    }

    private static void fromNoughtAgain() {
        due.says("There are no fleets any more: how many there were.");
        PlateHire x = Town.fleets(2, 2, 2, 2, 2, 2);
        x.unswap();
        for (int fleet = 0; fleet < 6; fleet++) {
            due.is("fleet " + fleet + " again", x.swap(4), fleet);
        }
        due.is("full again", x.swap(4), PlateHire.FULL);
        due.is("all in hour 14", x.spread(0), 6);
    }
}
