/** Promise 13: step. */
public final class Promise13StepTest {
    private static final Due due = new Due("promise 13, step");

    public static void main(String[] args) {
        howManyHours();
        beyondTheLast();
        badAheadOfFull();
        howManyRides();
        hourByHour();
        hourOfTheDay();
        shifts();
        runs();
        onePerCab();
        longestFirst();
        turns();
        turnsOfAllWards();
        outer();
        byNumbers();
        roam();
        roamOuter();
        lost();
        greatNumbers();
        due.end();
    }

    private static void howManyHours() {
        due.says("n hours (1 .. 24) go by: how many rides.");
        for (int n : Due.beyond(1, 24)) {
            due.unchanged("step(" + n + ")", Town::busy, x -> x.step(n), PlateHire.BAD);
            due.unchanged("step(" + n + ") at first", PlateHire::new, x -> x.step(n), PlateHire.BAD);
        }
        for (int n = 1; n <= 24; n++) {
            PlateHire x = new PlateHire();
            due.is("step(" + n + ")", x.step(n), 0);
            due.is("hours that went by", x.count(2), n);
        }
    }

    private static PlateHire atHour(int hour) {
        PlateHire x = Town.cabs(0, 2);
        x.stand(0, 0);
        x.stand(1, 3);
        x.ask(14, 0, 2);
        x.ask(15, 0, 2);
        Town.hours(x, hour);
        return x;
    }

    private static void beyondTheLast() {
        due.says("hours are counted from 0 on, 400 at most");
        for (int n = 1; n <= 24; n++) {
            int m = n;
            PlateHire x = atHour(400 - n);
            due.is(n + " up to 400", x.step(n) >= 0 ? 1 : 0, 1);
            due.is("hours that went by", x.count(2), 400);
            due.unchanged(n + " beyond 400 by 1", () -> atHour(401 - m), y -> y.step(m), PlateHire.FULL);
        }
        due.unchanged("step(1) at 400", Town::full, x -> x.step(1), PlateHire.FULL);
        due.unchanged("step(24) at 400", Town::full, x -> x.step(24), PlateHire.FULL);
        PlateHire x = atHour(399);
        due.is("not two", x.step(2), PlateHire.FULL);
        due.is("but one", x.step(1), 2);
        due.is("not one more", x.step(1), PlateHire.FULL);
        due.is("the last ride's hour", x.rode(x.count(10) - 1, 0), 399);
    }

    private static void badAheadOfFull() {
        due.says("STATE as told; FULL. They change nothing.");
        due.says("BAD; FULL: beyond 400.");
        for (int n : Due.beyond(1, 24)) {
            due.unchanged("step(" + n + ") at 400", Town::full, x -> x.step(n), PlateHire.BAD);
        }
    }

    private static void howManyRides() {
        due.says("n hours (1 .. 24) go by: how many rides.");
        PlateHire x = Town.cabs(0, 8);
        for (int p = 0; p < 8; p++) {
            x.stand(p, p % 5);
        }
        for (int i = 0; i < 120; i++) {
            x.ask(i / 5, i % 5, 20);
        }
        due.is("eight in each hour", x.step(24), 192);
        due.is("eight in one", x.step(1), 8);
        due.is("all rides", x.count(3), 200);
        for (int i = 0; i < 120; i++) {
            x.ask(i / 5, i % 5, 0);
        }
        x.step(3);
        due.is("none, when nobody waits", x.step(20), 0);
    }

    /** n hours at once are the same as n times one. */
    private static void hourByHour() {
        due.says("n hours (1 .. 24) go by: how many rides.");
        for (int view = 0; view < Views.COUNT; view++) {
            PlateHire x = Town.busy();
            PlateHire y = Town.busy();
            int rides = 0;
            for (int i = 0; i < 24; i++) {
                rides += y.step(1);
            }
            due.is("24 hours at once", x.step(24), rides);
            due.same("24 hours at once", x, y, view);
        }
    }

    private static void hourOfTheDay() {
        due.says("the hour of the day is that modulo 24");
        PlateHire x = new PlateHire();
        x.ask(0, 1, 5);
        x.ask(23, 2, 7);
        int lost = 0;
        for (int hour = 0; hour < 400; hour++) {
            due.is("no ride in hour " + hour, x.step(1), 0);
            lost += hour % 24 == 2 ? 5 : hour > 24 && hour % 24 == 1 ? 7 : 0;
            if (hour % 24 < 4) {
                due.is("lost ones at the end of hour " + hour, x.count(4), lost);
            }
        }
        due.is("lost ones in all", x.count(4), 17 * 5 + 16 * 7);
        x = Town.cabs(0, 1);
        Town.law(x, "night 1;base 2");
        x.ask(23, 0, 1);
        x.stand(0, 0);
        Town.hours(x, 47);
        x.stand(0, 0);
        due.is("a ride in hour 47", x.step(1), 1);
        due.is("at night", x.rode(1, 4), 3);
        due.is("counted on", x.rode(1, 0), 47);
    }

    private static void shifts() {
        due.says("it RUNS in an hour, if the SHIFT of this (day: 4 .. 15) has a DRIVER");
        PlateHire x = Town.cabs(0, 1);
        x.stand(0, 0);
        int day = 0;
        int night = 0;
        for (int hour = 0; hour < 72; hour++) {
            x.step(1);
            boolean byDay = hour % 24 >= 4 && hour % 24 <= 15;
            day += byDay ? 1 : 0;
            night += byDay ? 0 : 1;
            due.is("day's driver behind hour " + hour, x.driven(0, 1), day);
            due.is("night's driver behind hour " + hour, x.driven(1, 1), night);
        }
        due.is("hours of the plate", x.about(0, 4), 72);
    }

    private static void runs() {
        due.says("A CAB is a PLATE that stands in a WARD (nowhere at first)");
        PlateHire x = Town.withDrivers(3, 2, 2);
        x.drive(0, 0, 0);
        x.drive(1, 1, 1);
        x.stand(0, 0);
        x.stand(2, 0);
        x.ask(0, 0, 1);
        due.is("by day only, nowhere, no driver", x.step(1), 0);
        for (int p = 0; p < 3; p++) {
            due.is("hours of " + p, x.about(p, 4), 0);
        }
        due.is("no hour without a ride", x.count(5), 0);
        due.is("it does not roam either", x.about(0, 6), 0);
        due.is("nowhere still", x.about(1, 6), PlateHire.NONE);
        x.stand(1, 0);
        due.is("a cab that runs", x.step(1), 1);
        due.is("hours of 1", x.about(1, 4), 1);
    }

    private static void onePerCab() {
        due.says("if somebody WAITS in its WARD it takes one, who WAITS longest");
        PlateHire x = Town.cabs(0, 2);
        x.ask(0, 0, 1);
        x.ask(0, 1, 20);
        x.stand(0, 0);
        x.stand(1, 4);
        due.is("one takes one, and none where it went", x.step(1), 1);
        due.is("plate 0 went to", x.about(0, 6), 1);
        due.is("plate 1 roams to", x.about(1, 6), 1);
        due.is("both take one", x.step(1), 2);
        x = Town.cabs(0, 3);
        x.ask(0, 2, 2);
        for (int p = 0; p < 3; p++) {
            x.stand(p, 2);
        }
        due.is("two for three", x.step(1), 2);
        due.is("the third has none", x.about(2, 6), 2);
        due.is("an hour without a ride", x.count(5), 1);
        due.is("but an hour", x.about(2, 4), 1);
    }

    private static void longestFirst() {
        due.says("the FARE (of this hour, with the hours waited) is taken by the PLATE and earned by the DRIVER");
        PlateHire x = Town.cabs(0, 4);
        Town.law(x, "wait 10;base 1");
        x.ask(0, 0, 1);
        x.ask(1, 0, 1);
        x.ask(2, 0, 2);
        x.step(2);
        for (int p = 0; p < 4; p++) {
            x.stand(p, 0);
        }
        due.is("four rides", x.step(1), 4);
        int[] took = {21, 11, 1, 1};
        for (int p = 0; p < 4; p++) {
            due.is("plate " + p + " took", x.about(p, 5), took[p]);
            due.is("its driver earned", x.driven(2 * p + 1, 2), took[p]);
            due.is("the other driver earned", x.driven(2 * p, 2), 0);
        }
        due.is("nobody is lost", x.tried(4, 5, 1), 0);
        x = Town.cabs(0, 1);
        Town.law(x, "night 5;base 1");
        x.ask(5, 0, 2);
        x.step(5);
        x.stand(0, 0);
        x.step(1);
        x.stand(0, 0);
        x.step(1);
        due.is("of hour 5, though both asked then", x.rode(0, 4), 6);
        due.is("of hour 6", x.rode(1, 4), 1);
    }

    private static void turns() {
        due.says("w + 1, w + 2, w + 3, w + 4, w (itself), and again, modulo 5)");
        for (int ward = 0; ward < 5; ward++) {
            PlateHire x = Town.cabs(0, 1);
            Town.law(x, "step 100;base 1");
            for (int i = 0; i < 12; i++) {
                int goes = (ward + 1 + i) % 5;
                x.stand(0, ward);
                x.ask(i, ward, 1);
                due.is("ride " + i + " from " + ward, x.step(1), 1);
                due.is("goes to", x.about(0, 6), goes);
                due.is("from", x.rode(i, 2), ward);
                due.is("to", x.rode(i, 3), goes);
                due.is("fare", x.rode(i, 4), 1 + 100 * Math.abs(ward - goes));
            }
        }
    }

    private static void turnsOfAllWards() {
        due.says("to the next of the other WARDS in turn (of a WARD w: from the first ride on");
        PlateHire x = Town.cabs(0, 5);
        for (int round = 0; round < 6; round++) {
            for (int ward = 0; ward < 5; ward++) {
                x.stand(ward, ward);
                x.ask(round, ward, ward <= round ? 1 : 0);
            }
            x.step(1);
            for (int ward = 0; ward < 5; ward++) {
                boolean rode = ward <= round;
                if (rode) {
                    due.is("round " + round + ", from " + ward, x.about(ward, 6), (ward + 1 + round - ward) % 5);
                }
            }
        }
    }

    private static void outer() {
        due.says("it stands where it went (an OUTER one in 2, if it may not stand there)");
        PlateHire x = Town.cabs(3, 1);
        Town.law(x, "step 1");
        int[] to = {0, 1, 2, 3, 4, 0};
        int[] stands = {2, 2, 2, 3, 4, 2};
        for (int i = 0; i < 6; i++) {
            x.stand(0, 4);
            x.ask(i, 4, 1);
            due.is("ride " + i, x.step(1), 1);
            due.is("the rider goes to", x.rode(i, 3), to[i]);
            due.is("for the fare", x.rode(i, 4), 4 - to[i]);
            due.is("the outer one stands in", x.about(0, 6), stands[i]);
        }
        for (int kind = 0; kind < 3; kind++) {
            x = Town.cabs(kind, 1);
            x.ask(0, 4, 1);
            x.stand(0, 4);
            x.step(1);
            due.is("kind " + kind + " stands in", x.about(0, 6), 0);
        }
    }

    private static void byNumbers() {
        due.says("2 All that RUN, by numbers");
        PlateHire x = Town.cabs(0, 3);
        x.ask(0, 0, 2);
        x.ask(0, 1, 1);
        x.stand(0, 1);
        x.stand(1, 0);
        x.stand(2, 0);
        due.is("three rides", x.step(1), 3);
        for (int k = 0; k < 3; k++) {
            due.is("plate of ride " + k, x.rode(k, 1), k);
        }
        due.is("plate 1 went to", x.about(1, 6), 1);
        due.is("plate 2 went to", x.about(2, 6), 2);
        x = Town.cabs(0, 3);
        x.ask(0, 0, 1);
        x.stand(1, 0);
        x.stand(2, 0);
        x.drive(1, 1, -1);
        due.is("who has no driver takes nobody", x.step(1), 1);
        due.is("plate 2 does", x.rode(0, 1), 2);
    }

    private static void roam() {
        due.says("3 Those that RUN and took nobody, by numbers, go to the WARD");
        due.says("with most who WAIT then, the least of several, if there WAIT more than where they stand");
        PlateHire x = Town.cabs(0, 2);
        x.ask(0, 3, 4);
        x.ask(0, 1, 4);
        x.ask(0, 4, 3);
        x.stand(0, 0);
        x.stand(1, 2);
        due.is("no ride", x.step(1), 0);
        due.is("the least of several", x.about(0, 6), 1);
        due.is("the other one too", x.about(1, 6), 1);
        for (int ward = 0; ward < 5; ward++) {
            x = Town.cabs(0, 1);
            x.stand(0, ward);
            x.step(1);
            due.is("nobody waits: it stays", x.about(0, 6), ward);
        }
        // plate 0 takes one of two in 4, so there wait as many as in 0 when plate 1 looks
        x = Town.cabs(0, 3);
        x.ask(0, 4, 2);
        x.ask(0, 3, 1);
        x.stand(0, 4);
        x.stand(1, 2);
        due.is("one ride", x.step(1), 1);
        due.is("one each: the least", x.about(1, 6), 3);
        x = Town.cabs(0, 3);
        x.ask(0, 2, 2);
        x.ask(0, 3, 1);
        x.stand(0, 2);
        x.stand(1, 2);
        x.stand(2, 0);
        due.is("two rides", x.step(1), 2);
        due.is("to where one still waits", x.about(2, 6), 3);
        x = Town.cabs(0, 1);
        x.ask(0, 4, 1);
        x.ask(1, 4, 1);
        x.ask(2, 4, 1);
        x.ask(2, 3, 2);
        x.step(2);
        x.stand(0, 0);
        x.step(1);
        due.is("most, though one of them is lost then", x.about(0, 6), 4);
        due.is("lost ones", x.count(4), 1);
    }

    private static void roamOuter() {
        due.says("go to the WARD (in which they may stand)");
        PlateHire x = Town.cabs(3, 1);
        x.ask(0, 0, 9);
        x.ask(0, 1, 9);
        x.ask(0, 4, 1);
        x.stand(0, 2);
        x.step(1);
        due.is("only where it may stand", x.about(0, 6), 4);
        x = Town.cabs(3, 1);
        x.ask(0, 0, 9);
        x.ask(0, 1, 9);
        x.stand(0, 3);
        x.step(1);
        due.is("it stays, if nobody waits there", x.about(0, 6), 3);
        for (int ward = 0; ward < 2; ward++) {
            x = Town.cabs(2, 1);
            x.ask(0, ward, 9);
            x.ask(0, 4, 1);
            x.stand(0, 2);
            x.step(1);
            due.is("another one may", x.about(0, 6), ward);
        }
    }

    private static void lost() {
        due.says("4 Who WAITS then and had WAITED 2 hours is LOST; the others have WAITED 1 more.");
        PlateHire x = new PlateHire();
        x.ask(0, 0, 3);
        x.ask(0, 4, 2);
        x.ask(1, 2, 20);
        x.step(1);
        due.is("hour 0", x.count(4), 0);
        x.step(1);
        due.is("hour 1", x.count(4), 0);
        x.step(1);
        due.is("hour 2: who came first", x.count(4), 5);
        x.step(1);
        due.is("hour 3: who came then", x.count(4), 25);
        x.step(20);
        due.is("nobody is left", x.count(4), 25);
        x.step(3);
        due.is("the next day's", x.count(4), 30);
        x = Town.cabs(0, 1);
        x.ask(0, 1, 1);
        x.step(2);
        x.stand(0, 1);
        due.is("in the third hour still taken", x.step(1), 1);
        due.is("and not lost", x.count(4), 0);
        x = Town.cabs(0, 1);
        x.ask(0, 1, 1);
        x.step(3);
        x.stand(0, 1);
        due.is("in the fourth not", x.step(1), 0);
        due.is("but lost", x.count(4), 1);
    }

    private static void greatNumbers() {
        due.says("RIDES are kept, the first 300.");
        PlateHire x = Town.cabs(0, 8);
        Town.law(x, "base 9999;base 9999;base 9999;base 9999;wait 9999;step 9999");
        for (int p = 0; p < 8; p++) {
            x.stand(p, p % 5);
        }
        for (int i = 0; i < 120; i++) {
            x.ask(i / 5, i % 5, 20);
        }
        int rides = 0;
        for (int left = 400; left > 0; left -= 20) {
            rides += x.step(20);
        }
        due.is("rides", rides, 3200);
        due.is("count(3)", x.count(3), 3200);
        due.is("kept", x.count(10), 300);
        due.is("no hour without a ride", x.count(5), 0);
        int took = 0;
        int earned = 0;
        for (int p = 0; p < 8; p++) {
            took += x.about(p, 5);
            earned += x.driven(2 * p, 2) + x.driven(2 * p + 1, 2);
            due.is("hours of " + p, x.about(p, 4), 400);
        }
        due.is("what drivers earned is what plates took", earned, took);
        due.is("each at least for 39996", took >= 3200 * 39996 ? 1 : 0, 1);
    }
}
