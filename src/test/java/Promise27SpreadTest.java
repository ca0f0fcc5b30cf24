/** Promise 27: spread. */
public final class Promise27SpreadTest {
    private static final Due due = new Due("promise 27, spread");

    public static void main(String[] args) {
        noSuchWhat();
        noFleets();
        greatestNumber();
        thenAsks();
        asksOfAllWards();
        thenLeastHours();
        asTheAsksAreNow();
        allPairs();
        manySixes();
        due.end();
    }

    private static void spread(PlateHire x, String name, int... all) {
        for (int what = 0; what < all.length; what++) {
            due.is(name + ": spread(" + what + ")", x.spread(what), all[what]);
        }
        due.is(name + ": one more", x.spread(x.count(8) + 2), PlateHire.NONE);
    }

    private static void noSuchWhat() {
        due.says("SPREAD: what 0 the greatest number in one hour, 1 ASKS together, 2 and more: the hour of fleet what - 2.");
        due.says("2 and more: the hour of fleet what - 2. NONE.");
        for (int what : Due.beyond(0, 4)) {
            due.unchanged("spread(" + what + ") of three", Town::busy, x -> x.spread(what), PlateHire.NONE);
        }
        for (int what : Due.beyond(0, 7)) {
            due.unchanged("spread(" + what + ") of six", Town::full, x -> x.spread(what), PlateHire.NONE);
        }
        // asks of the hours 12, 13, 14, 19 are 1, 3, 2, 3: the first two have 14 and 12, the third 13 or 19
        due.unchanged("asks of three", Town::busy, x -> x.spread(1), 6);
        due.unchanged("the last of three", Town::busy, x -> x.spread(4), 13);
        due.unchanged("the greatest of six", Town::full, x -> x.spread(0), 1);
    }

    private static void noFleets() {
        due.says("so that the greatest number of fleets in one hour is least");
        for (int what : Due.beyond(0, 1)) {
            due.unchanged("spread(" + what + ") of none", PlateHire::new, x -> x.spread(what), PlateHire.NONE);
        }
        due.unchanged("spread(0) of none", PlateHire::new, x -> x.spread(0), 0);
        due.unchanged("spread(1) of none", PlateHire::new, x -> x.spread(1), 0);
        PlateHire x = new PlateHire();
        for (int hour = 12; hour < 20; hour++) {
            x.ask(hour, 0, 20);
        }
        due.is("asks of none", x.spread(1), 0);
    }

    private static void greatestNumber() {
        due.says("so that the greatest number of fleets in one hour is least");
        spread(Town.fleets(1), "one", 1, 0, 12);
        spread(Town.fleets(128), "one at the end", 1, 0, 19);
        spread(Town.fleets(1, 1, 1, 1, 1, 1), "six in one", 6, 0, 12, 12, 12, 12, 12, 12);
        spread(Town.fleets(128, 128, 128, 128, 128, 128), "six in the last", 6, 0, 19, 19, 19, 19, 19, 19);
        spread(Town.fleets(255, 255, 255, 255, 255, 255), "anywhere", 1, 0, 12, 13, 14, 15, 16, 17);
        spread(Town.fleets(252, 252, 252, 252, 252, 252), "just enough", 1, 0, 14, 15, 16, 17, 18, 19);
        spread(Town.fleets(248, 248, 248, 248, 248, 248), "one hour too few", 2, 0, 15, 15, 16, 16, 17, 17);
        spread(Town.fleets(3, 3, 3, 3, 3), "five in two hours", 3, 0, 12, 12, 12, 13, 13);
        spread(Town.fleets(3, 1, 128), "the first gives way", 1, 0, 13, 12, 19);
        spread(Town.fleets(1, 1, 6, 6), "up to the greatest", 2, 0, 12, 12, 13, 13);
    }

    private static void thenAsks() {
        due.says("of several so that the ASKS (of all WARDS) in the hours that they take, fleet by fleet, are least together");
        PlateHire x = Town.fleets(3, 3);
        x.ask(12, 0, 20);
        x.ask(12, 4, 20);
        x.ask(13, 2, 1);
        spread(x, "the greatest number is ahead of asks", 1, 41, 12, 13);
        x = Town.fleets(7);
        x.ask(12, 0, 2);
        x.ask(13, 4, 1);
        x.ask(14, 1, 1);
        spread(x, "least asks, then least hour", 1, 1, 13);
        x = Town.fleets(1, 1, 6, 6);
        x.ask(12, 1, 3);
        x.ask(13, 1, 9);
        x.ask(14, 1, 2);
        spread(x, "an hour's asks for each fleet in it", 2, 10, 12, 12, 14, 14);
        x = Town.fleets(129);
        x.ask(12, 0, 1);
        spread(x, "the last hour for one ask less", 1, 0, 19);
        x.ask(19, 4, 1);
        spread(x, "the first hour for as many", 1, 1, 12);
    }

    private static void asksOfAllWards() {
        due.says("of several so that the ASKS (of all WARDS) in the hours that they take, fleet by fleet, are least together");
        for (int ward = 0; ward < 5; ward++) {
            for (int i = 0; i < 8; i++) {
                PlateHire x = Town.fleets(1 << i);
                x.ask(12 + i, ward, 7);
                due.is("ward " + ward + " at " + (12 + i), x.spread(1), 7);
            }
        }
        PlateHire x = Town.fleets(255, 255, 255, 255, 255, 255);
        for (int i = 0; i < 120; i++) {
            x.ask(i / 5, i % 5, 20);
        }
        spread(x, "the most asks", 1, 600, 12, 13, 14, 15, 16, 17);
        x = Town.fleets(1, 1, 1, 1, 1, 1);
        for (int ward = 0; ward < 5; ward++) {
            x.ask(12, ward, 20);
        }
        spread(x, "the most asks in one", 6, 600, 12, 12, 12, 12, 12, 12);
        x = Town.fleets(129, 129);
        x.ask(11, 0, 5);
        x.ask(20, 0, 5);
        x.ask(0, 0, 5);
        x.ask(23, 0, 5);
        spread(x, "other hours do not count", 1, 0, 12, 19);
    }

    private static void thenLeastHours() {
        due.says("of several the one in which the first fleet takes the least hour, then the second one");
        PlateHire x = Town.fleets(192, 192, 130);
        x.ask(13, 0, 4);
        spread(x, "the first fleet first", 1, 4, 18, 19, 13);
        x = Town.fleets(6, 6, 6);
        x.ask(13, 0, 1);
        x.ask(14, 0, 1);
        spread(x, "asks alike", 2, 3, 13, 13, 14);
        x.ask(13, 0, 2);
        spread(x, "asks of 14 are less", 2, 4, 13, 14, 14);
        x.swap(6);
        spread(x, "four", 2, 6, 13, 13, 14, 14);
        spread(Town.fleets(255, 1), "the first may not have the least of all", 1, 0, 13, 12);
        spread(Town.fleets(128, 129, 255), "the second, then the third", 1, 0, 19, 12, 13);
    }

    private static void asTheAsksAreNow() {
        due.says("SPREAD: what 0 the greatest number in one hour, 1 ASKS together");
        PlateHire x = Town.fleets(3);
        due.is("at first", x.spread(2), 12);
        x.ask(12, 3, 1);
        due.is("with an ask", x.spread(2), 13);
        x.ask(12, 3, 0);
        due.is("without it", x.spread(2), 12);
        x.swap(1);
        due.is("with another fleet", x.spread(2), 13);
        x.unswap();
        x.swap(3);
        due.is("without it", x.spread(2), 12);
    }

    private static void compare(String name, int[] sets, int[] asks) {
        PlateHire x = Town.fleets(sets);
        SlowHire y = new SlowHire();
        for (int set : sets) {
            y.swap(set);
        }
        for (int i = 0; i < asks.length; i++) {
            x.ask(12 + i, i % 5, asks[i]);
            y.ask(12 + i, i % 5, asks[i]);
        }
        for (int what = 0; what < sets.length + 2; what++) {
            due.is(name + ": spread(" + what + ")", x.spread(what), y.spread(what));
        }
    }

    /** All pairs of sets of the first five hours, and asks of which some are alike: against a look at every way. */
    private static void allPairs() {
        due.says("so that the greatest number of fleets in one hour is least");
        for (int a = 1; a < 32; a++) {
            for (int b = 1; b < 32; b++) {
                compare("sets " + a + " and " + b, new int[] {a, b}, new int[] {2, 1, 2, 0, 1});
                compare("sets " + 8 * a + " and " + 8 * b, new int[] {8 * a, 8 * b}, new int[] {0, 0, 0, 1, 1, 0, 2, 1});
            }
        }
    }

    private static void manySixes() {
        due.says("of several the one in which the first fleet takes the least hour, then the second one");
        java.util.Random random = new java.util.Random(27);
        for (int round = 0; round < 12; round++) {
            int[] sets = new int[6];
            int[] asks = new int[8];
            for (int i = 0; i < 6; i++) {
                sets[i] = 1 + random.nextInt(round % 2 == 0 ? 15 : 255);
            }
            for (int i = 0; i < 8; i++) {
                asks[i] = random.nextInt(3);
            }
            compare("round " + round, sets, asks);
        }
    }
}
