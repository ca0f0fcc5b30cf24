/** Promises 11 to 16: asks, standing, hours that go by, what is tried, and rides found again. */
public final class CityTest {
    private static final Due due = new Due("city");

    public static void main(String[] args) {
        ask();
        stand();
        stepRefusals();
        shiftHours();
        turns();
        longestFirst();
        lost();
        outer();
        byNumbers();
        roam();
        roamOuter();
        idle();
        tried();
        triedRefusals();
        triedBeyond();
        found();
        keptRides();
        allPlates();
        due.end();
    }

    /** Plates of a kind with a day and a night driver each. */
    private static PlateHire cabs(int kind, int n) {
        PlateHire x = new PlateHire();
        for (int p = 0; p < n; p++) {
            x.plate(kind, 0, 0, 0);
            x.driver(2);
            x.driver(2);
            x.drive(p, 0, 2 * p);
            x.drive(p, 1, 2 * p + 1);
        }
        return x;
    }

    private static void ask() {
        PlateHire x = new PlateHire();
        due.is("ask(-1, 0, 0)", x.ask(-1, 0, 0), PlateHire.NONE);
        due.is("ask(24, 0, 0)", x.ask(24, 0, 0), PlateHire.NONE);
        due.is("ask(0, -1, 0)", x.ask(0, -1, 0), PlateHire.NONE);
        due.is("ask(0, 5, 0)", x.ask(0, 5, 0), PlateHire.NONE);
        due.is("NONE is ahead of BAD", x.ask(0, 5, 21), PlateHire.NONE);
        due.is("ask(0, 0, 21)", x.ask(0, 0, 21), PlateHire.BAD);
        due.is("ask(0, 0, -1)", x.ask(0, 0, -1), PlateHire.BAD);
        due.is("ask(23, 4, 20)", x.ask(23, 4, 20), 0);
        due.is("ask(23, 4, 7)", x.ask(23, 4, 7), 20);
        due.is("ask(22, 4, 1)", x.ask(22, 4, 1), 0);
        due.is("ask(23, 3, 1)", x.ask(23, 3, 1), 0);
        due.is("a refusal changes nothing", x.ask(23, 4, 21), PlateHire.BAD);
        due.is("ask(23, 4, 0)", x.ask(23, 4, 0), 7);
    }

    private static void stand() {
        PlateHire x = new PlateHire();
        x.plate(0, 0, 0, 0);
        x.plate(3, 0, 0, 0);
        due.is("stand(2, 0)", x.stand(2, 0), -5);
        due.is("stand(-1, 0)", x.stand(-1, 0), -5);
        due.is("stand(0, 5)", x.stand(0, 5), -5);
        due.is("stand(0, -2)", x.stand(0, -2), -5);
        due.is("stand(0, 4)", x.stand(0, 4), PlateHire.NONE);
        due.is("stand(0, 0)", x.stand(0, 0), 4);
        due.is("stand(0, -1)", x.stand(0, -1), 0);
        due.is("stand(0, -1)", x.stand(0, -1), PlateHire.NONE);
        due.is("outer in 0", x.stand(1, 0), PlateHire.STATE);
        due.is("outer in 1", x.stand(1, 1), PlateHire.STATE);
        due.is("it is nowhere", x.about(1, 6), PlateHire.NONE);
        due.is("outer in 2", x.stand(1, 2), PlateHire.NONE);
        due.is("outer in 3", x.stand(1, 3), 2);
        due.is("outer in 4", x.stand(1, 4), 3);
        due.is("outer in 1", x.stand(1, 1), PlateHire.STATE);
        due.is("outer nowhere", x.stand(1, -1), 4);
    }

    private static void stepRefusals() {
        PlateHire x = new PlateHire();
        due.is("step(0)", x.step(0), PlateHire.BAD);
        due.is("step(-1)", x.step(-1), PlateHire.BAD);
        due.is("step(25)", x.step(25), PlateHire.BAD);
        for (int i = 0; i < 16; i++) {
            due.is("step(24)", x.step(24), 0);
        }
        due.is("count(2)", x.count(2), 384);
        due.is("step(17)", x.step(17), PlateHire.FULL);
        due.is("count(2)", x.count(2), 384);
        due.is("step(16)", x.step(16), 0);
        due.is("step(1)", x.step(1), PlateHire.FULL);
        due.is("BAD is ahead of FULL", x.step(25), PlateHire.BAD);
        due.is("count(2)", x.count(2), 400);
    }

    private static void shiftHours() {
        PlateHire x = cabs(0, 1);
        x.stand(0, 0);
        x.step(4);
        due.is("night until 3", x.driven(1, 1), 4);
        due.is("no day until 3", x.driven(0, 1), 0);
        x.step(12);
        due.is("day from 4 to 15", x.driven(0, 1), 12);
        due.is("no night by day", x.driven(1, 1), 4);
        x.step(8);
        due.is("night from 16 on", x.driven(1, 1), 12);
        x.step(24);
        due.is("the next day alike", x.driven(0, 1), 24);
        due.is("the next night alike", x.driven(1, 1), 24);
        due.is("hours of the plate", x.about(0, 4), 48);
    }

    private static void turns() {
        PlateHire x = cabs(0, 1);
        Due.law(x, "step 100;base 1");
        int[] goes = {4, 0, 1, 2, 3, 4};
        for (int i = 0; i < goes.length; i++) {
            x.stand(0, 3);
            x.ask(i, 3, 1);
            due.is("ride " + i, x.step(1), 1);
            due.is("goes to", x.about(0, 6), goes[i]);
            due.is("from", x.rode(i, 2), 3);
            due.is("to", x.rode(i, 3), goes[i]);
            due.is("fare", x.rode(i, 4), 1 + 100 * Math.abs(3 - goes[i]));
        }
        x.stand(0, 1);
        x.ask(6, 1, 1);
        x.step(1);
        due.is("another ward has turns of its own", x.about(0, 6), 2);
    }

    private static void longestFirst() {
        PlateHire x = cabs(0, 3);
        Due.law(x, "wait 10;base 1");
        x.ask(0, 0, 1);
        x.ask(1, 0, 1);
        x.ask(2, 0, 1);
        x.step(2);
        for (int p = 0; p < 3; p++) {
            x.stand(p, 0);
        }
        due.is("three rides", x.step(1), 3);
        due.is("waited 2", x.about(0, 5), 21);
        due.is("waited 1", x.about(1, 5), 11);
        due.is("waited 0", x.about(2, 5), 1);
        due.is("earned", x.driven(1, 2), 21);
        due.is("rides", x.count(3), 3);
        due.is("a cab takes one only", x.count(10), 3);
    }

    private static void lost() {
        PlateHire x = new PlateHire();
        x.ask(0, 0, 3);
        x.ask(0, 4, 2);
        x.ask(1, 2, 20);
        x.step(2);
        due.is("nobody lost", x.count(4), 0);
        x.step(1);
        due.is("who came first", x.count(4), 5);
        x.step(1);
        due.is("who came then", x.count(4), 25);
        x.step(20);
        due.is("nobody is left", x.count(4), 25);
        x.step(3);
        due.is("the next day's", x.count(4), 30);
    }

    private static void outer() {
        PlateHire x = cabs(3, 1);
        Due.law(x, "step 1");
        x.stand(0, 4);
        x.ask(0, 4, 1);
        x.step(1);
        due.is("the rider goes to 0", x.rode(0, 3), 0);
        due.is("for the fare to 0", x.rode(0, 4), 4);
        due.is("the outer one stands in 2", x.about(0, 6), 2);
        x.stand(0, 4);
        x.ask(1, 4, 1);
        x.step(1);
        due.is("the rider goes to 1", x.rode(1, 3), 1);
        due.is("the outer one stands in 2", x.about(0, 6), 2);
        x.stand(0, 3);
        x.ask(2, 3, 1);
        x.step(1);
        due.is("it may stand in 4", x.about(0, 6), 4);
    }

    private static void byNumbers() {
        PlateHire x = cabs(0, 3);
        x.ask(0, 0, 2);
        x.ask(0, 1, 1);
        x.stand(0, 1);
        x.stand(1, 0);
        x.stand(2, 0);
        due.is("three rides", x.step(1), 3);
        due.is("plate 0 first", x.rode(0, 1), 0);
        due.is("plate 1 then", x.rode(1, 1), 1);
        due.is("plate 1 went to", x.about(1, 6), 1);
        due.is("plate 2 went to", x.about(2, 6), 2);

        x = cabs(0, 3);
        x.ask(0, 0, 1);
        x.stand(1, 0);
        x.stand(2, 0);
        x.drive(1, 1, -1);
        due.is("who has no driver takes nobody", x.step(1), 1);
        due.is("plate 2", x.rode(0, 1), 2);
        due.is("plate 1 stays", x.about(1, 6), 0);
        due.is("its hours", x.about(1, 4), 0);
        due.is("no idle hour", x.count(5), 0);
    }

    private static void roam() {
        PlateHire x = cabs(0, 2);
        x.ask(0, 3, 4);
        x.ask(0, 1, 4);
        x.ask(0, 4, 3);
        x.stand(0, 0);
        x.stand(1, 0);
        due.is("no ride", x.step(1), 0);
        due.is("the least of several", x.about(0, 6), 1);
        due.is("the other one too", x.about(1, 6), 1);
        due.is("two rides", x.step(1), 2);
        due.is("from 1 to 2", x.about(0, 6), 2);
        due.is("from 1 to 3", x.about(1, 6), 3);

        x = cabs(0, 1);
        x.stand(0, 4);
        x.step(1);
        due.is("nobody waits: it stays", x.about(0, 6), 4);

        // who waits is counted behind the rides, and with all who still wait
        x = cabs(0, 3);
        x.ask(0, 2, 2);
        x.ask(0, 3, 1);
        x.stand(0, 2);
        x.stand(1, 2);
        x.stand(2, 0);
        due.is("two rides", x.step(1), 2);
        due.is("to where one still waits", x.about(2, 6), 3);

        x = cabs(0, 1);
        x.ask(0, 4, 1);
        x.ask(1, 4, 1);
        x.ask(2, 4, 1);
        x.ask(2, 3, 2);
        x.step(2);
        x.stand(0, 0);
        x.step(1);
        due.is("most, however long they waited", x.about(0, 6), 4);
    }

    private static void roamOuter() {
        PlateHire x = cabs(3, 1);
        x.ask(0, 0, 9);
        x.ask(0, 1, 9);
        x.ask(0, 4, 1);
        x.stand(0, 2);
        x.step(1);
        due.is("only where it may stand", x.about(0, 6), 4);
    }

    private static void idle() {
        PlateHire x = cabs(0, 2);
        x.ask(0, 0, 1);
        x.stand(0, 0);
        x.stand(1, 0);
        x.step(1);
        due.is("one took nobody", x.count(5), 1);
        x.step(2);
        due.is("both", x.count(5), 5);
        x.stand(1, -1);
        x.step(1);
        due.is("one stands nowhere", x.count(5), 6);
    }

    private static PlateHire busy() {
        PlateHire x = cabs(0, 3);
        Due.law(x, "base 10;step 3;wait 2;night 5");
        for (int h = 0; h < 24; h++) {
            x.ask(h, h % 5, 1 + h % 3);
            x.ask(h, (h * 3 + 1) % 5, h % 2);
        }
        x.stand(0, 0);
        x.stand(1, 2);
        x.stand(2, 4);
        x.step(7);
        return x;
    }

    private static int taken(PlateHire x) {
        return x.about(0, 5) + x.about(1, 5) + x.about(2, 5);
    }

    private static void tried() {
        for (int less = 0; less <= 3; less++) {
            PlateHire x = busy();
            PlateHire y = busy();
            for (int p = 3 - less; p < 3; p++) {
                y.stand(p, -1);
            }
            int rides = y.count(3);
            int lost = y.count(4);
            int idle = y.count(5);
            int taken = taken(y);
            y.step(20);
            y.step(20);
            for (int again = 0; again < 2; again++) {
                due.is("rides without " + less, x.tried(less, 40, 0), y.count(3) - rides);
                due.is("lost ones without " + less, x.tried(less, 40, 1), y.count(4) - lost);
                due.is("idle hours without " + less, x.tried(less, 40, 2), y.count(5) - idle);
                due.is("taken without " + less, x.tried(less, 40, 3), taken(y) - taken);
            }
            sameAs(x, busy());
        }
    }

    private static void sameAs(PlateHire x, PlateHire y) {
        for (int round = 0; round < 4; round++) {
            for (int what = 0; what <= 10; what++) {
                due.is("as before: count(" + what + ")", x.count(what), y.count(what));
            }
            for (int p = 0; p < 3; p++) {
                for (int what = 0; what < 8; what++) {
                    due.is("as before: about(" + p + ", " + what + ")", x.about(p, what), y.about(p, what));
                }
            }
            for (int d = 0; d < 6; d++) {
                due.is("as before: driven(" + d + ", 1)", x.driven(d, 1), y.driven(d, 1));
                due.is("as before: driven(" + d + ", 2)", x.driven(d, 2), y.driven(d, 2));
            }
            due.is("goes on as before", x.step(3), y.step(3));
        }
    }

    private static void triedRefusals() {
        PlateHire x = busy();
        due.is("tried(0, 1, -1)", x.tried(0, 1, -1), PlateHire.NONE);
        due.is("tried(0, 1, 4)", x.tried(0, 1, 4), PlateHire.NONE);
        due.is("NONE is ahead of BAD", x.tried(4, 0, 4), PlateHire.NONE);
        due.is("tried(-1, 1, 0)", x.tried(-1, 1, 0), PlateHire.BAD);
        due.is("tried(4, 1, 0)", x.tried(4, 1, 0), PlateHire.BAD);
        due.is("tried(0, 0, 0)", x.tried(0, 0, 0), PlateHire.BAD);
        due.is("tried(0, 41, 0)", x.tried(0, 41, 0), PlateHire.BAD);
        due.is("no cab, no idle hour", x.tried(3, 40, 2), 0);
        due.is("no plates at all", new PlateHire().tried(0, 1, 0), 0);
    }

    private static void triedBeyond() {
        PlateHire x = cabs(0, 1);
        x.stand(0, 0);
        for (int i = 0; i < 16; i++) {
            x.step(24);
        }
        x.step(16);
        due.is("hours beyond 400 can be tried", x.tried(0, 40, 2), 40);
        due.is("count(2)", x.count(2), 400);
    }

    private static void found() {
        PlateHire x = cabs(0, 2);
        due.is("none at all", x.found(0, 400, -1, -1, 0), PlateHire.NONE);
        x.ask(0, 0, 2);
        x.ask(1, 1, 1);
        x.ask(1, 2, 1);
        x.ask(3, 2, 1);
        x.stand(0, 0);
        x.stand(1, 0);
        x.step(4);
        // rides: 0: hour 0, 0 to 1; 1: hour 0, 0 to 2; 2: hour 1, 1 to 2; 3: hour 1, 2 to 3; 4: hour 3, 2 to 4
        int[][] rides = {{0, 0, 0, 1}, {0, 1, 0, 2}, {1, 0, 1, 2}, {1, 1, 2, 3}, {3, 0, 2, 4}};
        for (int k = 0; k < rides.length; k++) {
            for (int what = 0; what < 4; what++) {
                due.is("rode(" + k + ", " + what + ")", x.rode(k, what), rides[k][what]);
            }
        }
        due.is("all, the first", x.found(0, 399, -1, -1, 0), 0);
        due.is("all, the last", x.found(0, 399, -1, -1, 4), 4);
        due.is("all, one more", x.found(0, 399, -1, -1, 5), PlateHire.NONE);
        due.is("i -1", x.found(0, 399, -1, -1, -1), PlateHire.NONE);
        due.is("hour 1 on", x.found(1, 399, -1, -1, 0), 2);
        due.is("up to hour 1", x.found(0, 1, -1, -1, 3), 3);
        due.is("up to hour 1, one more", x.found(0, 1, -1, -1, 4), PlateHire.NONE);
        due.is("hour 1 alone", x.found(1, 1, -1, -1, 1), 3);
        due.is("hour 2", x.found(2, 2, -1, -1, 0), PlateHire.NONE);
        due.is("hours the wrong way", x.found(3, 0, -1, -1, 0), PlateHire.NONE);
        due.is("from 2", x.found(0, 399, 2, -1, 1), 4);
        due.is("from 2, one more", x.found(0, 399, 2, -1, 2), PlateHire.NONE);
        due.is("to 2", x.found(0, 399, -1, 2, 1), 2);
        due.is("from 1 to 2", x.found(0, 399, 1, 2, 0), 2);
        due.is("from 1 to 3", x.found(0, 399, 1, 3, 0), PlateHire.NONE);
        due.is("from -2", x.found(0, 399, -2, -1, 0), PlateHire.NONE);
        due.is("to 5", x.found(0, 399, -1, 5, 0), PlateHire.NONE);
        due.is("rode(-1, 0)", x.rode(-1, 0), PlateHire.NONE);
        due.is("rode(5, 0)", x.rode(5, 0), PlateHire.NONE);
        due.is("rode(0, -1)", x.rode(0, -1), PlateHire.NONE);
        due.is("rode(0, 5)", x.rode(0, 5), PlateHire.NONE);
    }

    private static void keptRides() {
        PlateHire x = cabs(0, 8);
        for (int p = 0; p < 8; p++) {
            x.stand(p, p % 5);
        }
        for (int h = 0; h < 24; h++) {
            for (int ward = 0; ward < 5; ward++) {
                x.ask(h, ward, 20);
            }
        }
        due.is("rides of a day", x.step(24), 192);
        due.is("kept", x.count(10), 192);
        due.is("rides of the next day", x.step(24), 192);
        due.is("kept", x.count(10), 300);
        due.is("rides", x.count(3), 384);
        due.is("the last one kept", x.found(0, 399, -1, -1, 299), 299);
        due.is("its hour", x.rode(299, 0), 37);
        due.is("its plate", x.rode(299, 1), 3);
        due.is("no more", x.rode(300, 0), PlateHire.NONE);
        due.is("none later", x.found(38, 399, -1, -1, 0), PlateHire.NONE);
    }

    private static void allPlates() {
        PlateHire x = cabs(0, 8);
        for (int p = 8; p < 12; p++) {
            x.plate(3, 0, 0, 0);
            x.drive(p, 1, 2 * (p - 8));
        }
        for (int p = 0; p < 12; p++) {
            x.stand(p, 2);
        }
        x.ask(0, 2, 11);
        due.is("rides of twelve", x.tried(0, 1, 0), 11);
        due.is("rides of none", x.tried(12, 40, 0), 0);
        due.is("lost by none", x.tried(12, 3, 1), 11);
        due.is("step(1)", x.step(1), 11);
        due.is("the last roams", x.count(5), 1);
        due.is("the last rode", x.rode(10, 1), 10);
        due.is("ward 2's eleventh ride goes to", x.rode(10, 3), 3);
    }
}
