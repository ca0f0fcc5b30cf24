/** Promises 25 to 31: fleets, their spread, the line at the airport and the counts. */
public final class ChangeoverTest {
    private static final Due due = new Due("changeover");

    public static void main(String[] args) {
        swap();
        unswap();
        spreadNone();
        spreadGreatest();
        spreadAsks();
        spreadOrder();
        join();
        call();
        leave();
        count();
        due.end();
    }

    private static void swap() {
        PlateHire x = new PlateHire();
        due.is("swap(0)", x.swap(0), PlateHire.BAD);
        due.is("swap(256)", x.swap(256), PlateHire.BAD);
        due.is("swap(-1)", x.swap(-1), PlateHire.BAD);
        due.is("swap(1)", x.swap(1), 0);
        due.is("swap(255)", x.swap(255), 1);
        for (int i = 2; i < 6; i++) {
            due.is("fleet " + i, x.swap(7), i);
        }
        due.is("a wrong seventh", x.swap(0), PlateHire.BAD);
        due.is("a seventh", x.swap(1), PlateHire.FULL);
        due.is("count(8)", x.count(8), 6);
    }

    private static void unswap() {
        PlateHire x = new PlateHire();
        x.swap(3);
        x.swap(3);
        due.is("unswap()", x.unswap(), 2);
        due.is("unswap()", x.unswap(), 0);
        due.is("count(8)", x.count(8), 0);
        due.is("spread(0)", x.spread(0), 0);
        due.is("numbers from 0 on again", x.swap(4), 0);
        due.is("spread(2)", x.spread(2), 14);
    }

    private static void spreadNone() {
        PlateHire x = new PlateHire();
        due.is("spread(-1)", x.spread(-1), PlateHire.NONE);
        due.is("spread(0)", x.spread(0), 0);
        due.is("spread(1)", x.spread(1), 0);
        due.is("spread(2)", x.spread(2), PlateHire.NONE);
        x.swap(128);
        due.is("spread(2)", x.spread(2), 19);
        due.is("spread(3)", x.spread(3), PlateHire.NONE);
        due.is("spread(least)", x.spread(Integer.MIN_VALUE), PlateHire.NONE);
        due.is("spread(most)", x.spread(Integer.MAX_VALUE), PlateHire.NONE);
    }

    private static void spread(PlateHire x, String name, int... all) {
        for (int what = 0; what < all.length; what++) {
            due.is(name + ": spread(" + what + ")", x.spread(what), all[what]);
        }
    }

    private static PlateHire fleets(int... sets) {
        PlateHire x = new PlateHire();
        for (int set : sets) {
            x.swap(set);
        }
        return x;
    }

    private static void spreadGreatest() {
        spread(fleets(1, 1, 1, 1, 1, 1), "all in one", 6, 0, 12, 12, 12, 12, 12, 12);
        spread(fleets(255, 255, 255, 255, 255, 255), "anywhere", 1, 0, 12, 13, 14, 15, 16, 17);
        spread(fleets(3, 3, 3, 3, 3), "five in two hours", 3, 0, 12, 12, 12, 13, 13);
        spread(fleets(3, 1, 128), "the first gives way", 1, 0, 13, 12, 19);
        // hour 12 has two for certain, so the others need not be apart
        spread(fleets(1, 1, 6, 6), "up to the greatest", 2, 0, 12, 12, 13, 13);
    }

    private static void spreadAsks() {
        PlateHire x = fleets(3, 3);
        x.ask(12, 0, 20);
        x.ask(12, 4, 20);
        x.ask(13, 2, 1);
        spread(x, "the greatest number is ahead of asks", 1, 41, 12, 13);
        x = fleets(7);
        x.ask(12, 0, 2);
        x.ask(13, 4, 1);
        x.ask(14, 1, 1);
        spread(x, "least asks, then least hour", 1, 1, 13);
        // both may be in one hour, as two are in 12 anyway: its asks count for each
        x = fleets(1, 1, 6, 6);
        x.ask(12, 1, 3);
        x.ask(13, 1, 9);
        x.ask(14, 1, 2);
        spread(x, "fleet by fleet", 2, 10, 12, 12, 14, 14);
        x = fleets(255, 255, 255, 255, 255, 255);
        for (int h = 0; h < 24; h++) {
            for (int ward = 0; ward < 5; ward++) {
                x.ask(h, ward, 20);
            }
        }
        spread(x, "the most asks", 1, 600, 12, 13, 14, 15, 16, 17);
        x = fleets(1, 1, 1, 1, 1, 1);
        for (int ward = 0; ward < 5; ward++) {
            x.ask(12, ward, 20);
        }
        spread(x, "the most asks in one", 6, 600, 12);
        x = fleets(1);
        x.ask(11, 0, 5);
        x.ask(20, 0, 5);
        x.ask(0, 0, 5);
        spread(x, "other hours do not count", 1, 0, 12);
    }

    private static void spreadOrder() {
        PlateHire x = fleets(192, 192, 130);
        x.ask(13, 0, 4);
        spread(x, "least hours, the first fleet first", 1, 4, 18, 19, 13);
        x = fleets(6, 6, 6);
        x.ask(13, 0, 1);
        x.ask(14, 0, 1);
        spread(x, "asks alike", 2, 3, 13, 13, 14);
        x.ask(13, 0, 2);
        spread(x, "asks of 14 are less", 2, 4, 13, 14, 14);
        x.swap(6);
        spread(x, "four", 2, 6, 13, 13, 14, 14);
    }

    private static PlateHire plates(int... kinds) {
        PlateHire x = new PlateHire();
        for (int kind : kinds) {
            x.plate(kind, 0, 0, 0);
        }
        return x;
    }

    private static void join() {
        PlateHire x = plates(0, 1, 2, 3, 0, 0, 0, 0, 0, 0, 0, 0);
        due.is("join(12)", x.join(12), PlateHire.NONE);
        due.is("join(-1)", x.join(-1), PlateHire.NONE);
        for (int p = 0; p < 12; p++) {
            due.is("join(" + p + ")", x.join(p), p + 1);
        }
        due.is("again", x.join(0), PlateHire.STATE);
        due.is("count(7)", x.count(7), 12);
        for (int p = 0; p < 12; p++) {
            due.is("call(0)", x.call(0), p);
        }
        due.is("call(0)", x.call(0), PlateHire.NONE);
        due.is("join again", x.join(3), 1);
    }

    private static void call() {
        PlateHire x = plates(0, 1, 2, 2, 3);
        due.is("call(-1)", x.call(-1), PlateHire.BAD);
        due.is("call(2)", x.call(2), PlateHire.BAD);
        due.is("call(1)", x.call(1), PlateHire.NONE);
        x.join(1);
        x.join(3);
        x.join(0);
        x.join(2);
        x.join(4);
        due.is("call(2)", x.call(2), PlateHire.BAD);
        due.is("the first ramp", x.call(1), 3);
        due.is("the next ramp", x.call(1), 2);
        due.is("no ramp any more", x.call(1), PlateHire.NONE);
        due.is("count(7)", x.count(7), 3);
        due.is("the first", x.call(0), 1);
        due.is("the next", x.call(0), 0);
        due.is("the last", x.call(0), 4);
        due.is("none", x.call(0), PlateHire.NONE);
        x.join(2);
        due.is("a ramp is called by 0 too", x.call(0), 2);
    }

    private static void leave() {
        PlateHire x = plates(0, 1, 2, 3);
        due.is("leave(4)", x.leave(4), PlateHire.NONE);
        due.is("leave(-1)", x.leave(-1), PlateHire.NONE);
        due.is("leave(0)", x.leave(0), PlateHire.STATE);
        x.join(3);
        x.join(2);
        x.join(1);
        due.is("leave(2)", x.leave(2), 1);
        due.is("leave(2)", x.leave(2), PlateHire.STATE);
        due.is("leave(1)", x.leave(1), 1);
        due.is("join(2)", x.join(2), 2);
        due.is("leave(3)", x.leave(3), 0);
        due.is("leave(2)", x.leave(2), 0);
        due.is("count(7)", x.count(7), 0);
    }

    private static void count() {
        PlateHire x = plates(0, 0, 0);
        x.driver(2);
        x.driver(2);
        x.drive(0, 1, 0);
        x.drive(1, 1, 1);
        x.stand(0, 0);
        x.stand(1, 4);
        x.ask(0, 0, 4);
        x.step(3);
        x.loan(0, 0, 1);
        x.loan(0, 0, 1);
        x.loan(1, 0, 1);
        x.loan(1, 0, 1);
        x.join(0);
        x.swap(1);
        x.swap(1);
        x.swap(1);
        x.swap(1);
        x.swap(1);
        x.feed(0, 7);
        // hour 0: a ride of plate 0 to 1, plate 1 roams to 0; 1: plate 1 rides to 2, plate 0 roams to 0;
        // hour 2: plate 0 rides to 3, plate 1 roams to 0; one of four is lost
        int[] due0 = {3, 2, 3, 3, 1, 3, 4, 1, 5, 7, 3};
        for (int what = 0; what <= 10; what++) {
            due.is("count(" + what + ")", x.count(what), due0[what]);
        }
        due.is("count(-1)", x.count(-1), PlateHire.NONE);
        due.is("count(11)", x.count(11), PlateHire.NONE);
    }
}
