/** Promises 1 to 7: a new object, plates, drivers, shifts and how they are filled. */
public final class PlatesTest {
    private static final Due due = new Due("plates");

    public static void main(String[] args) {
        newObject();
        plate();
        driver();
        drive();
        about();
        hoursDue();
        driven();
        fillSmall();
        fillOrder();
        fillFirstTen();
        fillNobody();
        fillAgain();
        due.end();
    }

    private static void newObject() {
        PlateHire x = new PlateHire();
        for (int what = 0; what <= 10; what++) {
            due.is("count(" + what + ") of a new object", x.count(what), 0);
        }
        due.is("about(0, 0)", x.about(0, 0), PlateHire.NONE);
        due.is("driven(0, 0)", x.driven(0, 0), PlateHire.NONE);
        due.is("fare(0, 4, 0, 9)", x.fare(0, 4, 0, 9), 0);
        due.is("fill()", x.fill(), 0);
        due.is("call(0)", x.call(0), PlateHire.NONE);
        due.is("unswap()", x.unswap(), 0);
        for (int h = 0; h < 24; h++) {
            for (int ward = 0; ward < 5; ward++) {
                due.is("ask at first", x.ask(h, ward, 0), 0);
            }
        }
        due.is("step(24)", x.step(24), 0);
        PlateHire y = new PlateHire();
        due.is("another object's hour", y.count(2), 0);
    }

    private static void plate() {
        PlateHire x = new PlateHire();
        int[][] bad = {{-1, 0, 0, 0}, {4, 0, 0, 0}, {0, -1, 0, 0}, {0, 6, 0, 0}, {0, 0, -1, 0}, {0, 0, 10000, 0},
            {0, 0, 0, -1}, {0, 0, 0, 10000}, {Integer.MIN_VALUE, 0, 0, 0}, {0, 0, 0, Integer.MAX_VALUE}};
        for (int[] b : bad) {
            due.is("plate with a wrong number", x.plate(b[0], b[1], b[2], b[3]), PlateHire.BAD);
        }
        due.is("count(0)", x.count(0), 0);
        for (int p = 0; p < 12; p++) {
            due.is("plate " + p, x.plate(p % 4, p % 6, 9999, 9999), p);
            due.is("its kind", x.about(p, 0), p % 4);
            due.is("its owner", x.about(p, 1), p % 6);
        }
        due.is("a wrong 13th plate", x.plate(4, 0, 0, 0), PlateHire.BAD);
        due.is("a 13th plate", x.plate(0, 0, 0, 0), PlateHire.FULL);
        due.is("count(0)", x.count(0), 12);
        due.is("about(12, 0)", x.about(12, 0), PlateHire.NONE);
    }

    private static void driver() {
        PlateHire x = new PlateHire();
        due.is("driver(-1)", x.driver(-1), PlateHire.BAD);
        due.is("driver(3)", x.driver(3), PlateHire.BAD);
        due.is("count(1)", x.count(1), 0);
        for (int d = 0; d < 16; d++) {
            due.is("driver " + d, x.driver(d % 3), d);
            due.is("its wish", x.driven(d, 0), d % 3);
        }
        due.is("a wrong 17th driver", x.driver(3), PlateHire.BAD);
        due.is("a 17th driver", x.driver(0), PlateHire.FULL);
        due.is("count(1)", x.count(1), 16);
    }

    private static void drive() {
        PlateHire x = new PlateHire();
        x.plate(0, 0, 0, 0);
        x.plate(0, 0, 0, 0);
        x.driver(0);
        x.driver(0);
        due.is("drive(2, 0, 0)", x.drive(2, 0, 0), -5);
        due.is("drive(-1, 0, 0)", x.drive(-1, 0, 0), -5);
        due.is("drive(0, -1, 0)", x.drive(0, -1, 0), -5);
        due.is("drive(0, 2, 0)", x.drive(0, 2, 0), -5);
        due.is("drive(0, 0, 2)", x.drive(0, 0, 2), -5);
        due.is("drive(0, 0, -2)", x.drive(0, 0, -2), -5);
        due.is("nobody where nobody is", x.drive(0, 0, -1), PlateHire.NONE);
        due.is("drive(1, 1, 1)", x.drive(1, 1, 1), PlateHire.NONE);
        due.is("night of 1", x.about(1, 3), 1);
        due.is("the same again", x.drive(1, 1, 1), 1);
        due.is("night of 1 still", x.about(1, 3), 1);
        due.is("another one", x.drive(1, 1, 0), 1);
        due.is("night of 1 now", x.about(1, 3), 0);
        due.is("who had it is free", x.drive(0, 0, 1), PlateHire.NONE);
        due.is("driver 0 takes over", x.drive(0, 0, 0), 1);
        due.is("and has no other", x.about(1, 3), PlateHire.NONE);
        due.is("day of 0", x.about(0, 2), 0);
        due.is("nobody now", x.drive(0, 0, -1), 0);
        due.is("day of 0 is free", x.about(0, 2), PlateHire.NONE);
    }

    private static void about() {
        PlateHire x = new PlateHire();
        x.plate(2, 5, 1, 1);
        due.is("about(0, -1)", x.about(0, -1), PlateHire.NONE);
        due.is("about(0, 8)", x.about(0, 8), PlateHire.NONE);
        due.is("about(-1, 0)", x.about(-1, 0), PlateHire.NONE);
        due.is("about(1, 4)", x.about(1, 4), PlateHire.NONE);
        int[] first = {2, 5, -1, -1, 0, 0, -1, 0};
        for (int what = 0; what < 8; what++) {
            due.is("about(0, " + what + ")", x.about(0, what), first[what]);
        }
        x.driver(2);
        x.driver(2);
        x.drive(0, 0, 1);
        x.drive(0, 1, 0);
        x.stand(0, 3);
        x.ask(0, 3, 1);
        Due.law(x, "base 7");
        x.step(2);
        int[] then = {2, 5, 1, 0, 2, 7, 4, 0};
        for (int what = 0; what < 8; what++) {
            due.is("then about(0, " + what + ")", x.about(0, what), then[what]);
        }
    }

    private static void hoursDue() {
        PlateHire x = new PlateHire();
        for (int kind = 0; kind < 4; kind++) {
            x.plate(kind, 0, 0, 0);
            due.is("hours due of kind " + kind, x.about(kind, 7), kind == 1 ? 5 : 0);
        }
        x.driver(0);
        x.drive(1, 1, 0);
        x.step(1);
        due.is("standing nowhere it does not run", x.about(1, 7), 5);
        x.stand(1, 0);
        x.step(1);
        due.is("one hour driven", x.about(1, 7), 4);
        x.step(10);
        due.is("two more nightly hours, none by day", x.about(1, 7), 2);
        x.step(12);
        due.is("never below 0", x.about(1, 7), 0);
        due.is("hours", x.about(1, 4), 11);
    }

    private static void driven() {
        PlateHire x = new PlateHire();
        x.plate(0, 0, 0, 0);
        x.driver(1);
        x.driver(2);
        due.is("driven(-1, 0)", x.driven(-1, 0), PlateHire.NONE);
        due.is("driven(2, 0)", x.driven(2, 0), PlateHire.NONE);
        due.is("driven(0, -1)", x.driven(0, -1), PlateHire.NONE);
        due.is("driven(0, 3)", x.driven(0, 3), PlateHire.NONE);
        x.drive(0, 1, 1);
        x.stand(0, 1);
        x.ask(0, 1, 1);
        Due.law(x, "base 9");
        x.step(6);
        due.is("wish", x.driven(1, 0), 2);
        due.is("hours up to 4", x.driven(1, 1), 4);
        due.is("earned", x.driven(1, 2), 9);
        due.is("hours of the other", x.driven(0, 1), 0);
        due.is("earned by the other", x.driven(0, 2), 0);
        x.drive(0, 1, 0);
        due.is("hours are kept", x.driven(1, 1), 4);
        due.is("so is what was earned", x.driven(1, 2), 9);
    }

    private static PlateHire withPlates(int n, int... wishes) {
        PlateHire x = new PlateHire();
        for (int p = 0; p < n; p++) {
            x.plate(0, 0, 0, 0);
        }
        for (int wish : wishes) {
            x.driver(wish);
        }
        return x;
    }

    private static void shifts(PlateHire x, String name, int... drivers) {
        for (int i = 0; i < drivers.length; i++) {
            due.is(name + ", shift " + i, x.about(i / 2, 2 + i % 2), drivers[i]);
        }
    }

    private static void fillSmall() {
        PlateHire x = withPlates(1, 1, 0);
        due.is("both as wished", x.fill(), 4);
        shifts(x, "both as wished", 1, 0);
        due.is("nothing is left to fill", x.fill(), 0);
        shifts(x, "as before", 1, 0);

        x = withPlates(1, 0, 0);
        due.is("one as wished", x.fill(), 3);
        shifts(x, "one as wished", 0, 1);

        x = withPlates(1, 1);
        due.is("the night only", x.fill(), 2);
        shifts(x, "the night only", -1, 0);

        x = withPlates(1, 2, 0);
        due.is("any goes where the other would not", x.fill(), 4);
        shifts(x, "any", 1, 0);

        x = withPlates(1, 1, 2, 2);
        due.is("more drivers than shifts", x.fill(), 4);
        shifts(x, "more drivers than shifts", 1, 0);
    }

    private static void fillOrder() {
        PlateHire x = withPlates(2, 0, 2, 1, 0);
        due.is("all as wished", x.fill(), 8);
        shifts(x, "least drivers first", 0, 1, 3, 2);

        x = withPlates(2, 1, 1, 1);
        x.driver(1);
        due.is("two as wished", x.fill(), 6);
        shifts(x, "day takes the least too", 0, 1, 2, 3);

        x = withPlates(2, 2, 2, 2, 2);
        x.drive(0, 1, 3);
        due.is("shifts that are had stay", x.fill(), 6);
        shifts(x, "around driver 3", 0, 3, 1, 2);
    }

    private static void fillFirstTen() {
        PlateHire x = withPlates(12, 2, 2, 2, 2, 2, 2, 2, 2, 2, 2, 2, 2, 2, 2, 2, 2);
        x.drive(0, 0, 15);
        due.is("ten of them", x.fill(), 20);
        shifts(x, "ten", 15, 0, 1, 2, 3, 4, 5, 6, 7, 8, 9, -1, -1);
        due.is("five more", x.fill(), 10);
        shifts(x, "all", 15, 0, 1, 2, 3, 4, 5, 6, 7, 8, 9, 10, 11, 12, 13, 14, -1);

        x = withPlates(1, 1, 1, 1, 1, 1, 1, 1, 1, 1, 1, 0);
        due.is("the eleventh driver is not looked at", x.fill(), 3);
        shifts(x, "the first ten drivers only", 0, 1);

        x = withPlates(6, 1, 1, 1, 1, 1, 1);
        due.is("the eleventh shift is not looked at", x.fill(), 11);
        shifts(x, "ten shifts", 0, 1, -1, 2, -1, 3, -1, 4, -1, 5, -1, -1);
    }

    private static void fillNobody() {
        PlateHire x = withPlates(3, 1, 0);
        due.is("as wished with shifts to spare", x.fill(), 4);
        shifts(x, "nobody is behind all", 1, 0, -1, -1, -1, -1);
        due.is("no plates", withPlates(0, 0, 1).fill(), 0);
        due.is("no drivers", withPlates(2).fill(), 0);
    }

    /** What one filling left over is counted anew by the next one. */
    private static void fillAgain() {
        for (int wish = 0; wish < 3; wish++) {
            PlateHire x = withPlates(1, wish, wish, wish, wish);
            due.is("two of four, wish " + wish, x.fill(), wish == 2 ? 4 : 3);
            shifts(x, "two of four", 0, 1);
            x.plate(0, 0, 0, 0);
            x.drive(1, 0, 2);
            x.drive(1, 1, 3);
            x.plate(0, 0, 0, 0);
            int open = wish == 1 ? 1 : 0;
            x.driver(2);
            x.drive(2, 1 - open, 4);
            x.driver(1 - open);
            due.is("one who wishes another shift, behind wish " + wish, x.fill(), 1);
            due.is("has it all the same", x.about(2, 2 + open), 5);
        }
        PlateHire x = withPlates(1, 1, 1, 1, 1);
        x.fill();
        x.plate(0, 0, 0, 0);
        x.plate(0, 0, 0, 0);
        x.plate(0, 0, 0, 0);
        due.is("two nights of three", x.fill(), 4);
        shifts(x, "two nights of three", 0, 1, -1, 2, -1, 3, -1, -1);
    }
}
