/** Promise 11: ask. */
public final class Promise11AskTest {
    private static final Due due = new Due("promise 11, ask");

    public static void main(String[] args) {
        noSuchHour();
        noSuchWard();
        howMany();
        noneAheadOfBad();
        whatTheyWere();
        eachHourAndWard();
        theyCome();
        due.end();
    }

    private static void noSuchHour() {
        due.says("ASKS: what they were. NONE: hour (0 .. 23), WARD; BAD.");
        for (int h : Due.beyond(0, 23)) {
            due.unchanged("ask(" + h + ", 0, 1)", Town::busy, x -> x.ask(h, 0, 1), PlateHire.NONE);
            due.unchanged("ask(" + h + ", 4, 20)", Town::full, x -> x.ask(h, 4, 20), PlateHire.NONE);
        }
        PlateHire x = new PlateHire();
        due.is("hour 0", x.ask(0, 0, 3), 0);
        due.is("hour 23", x.ask(23, 0, 4), 0);
        due.is("hour 0", x.ask(0, 0, 0), 3);
        due.is("hour 23", x.ask(23, 0, 0), 4);
    }

    private static void noSuchWard() {
        due.says("ASKS: what they were. NONE: hour (0 .. 23), WARD; BAD.");
        for (int ward : Due.beyond(0, 4)) {
            due.unchanged("ask(0, " + ward + ", 1)", Town::busy, x -> x.ask(0, ward, 1), PlateHire.NONE);
            due.unchanged("ask(23, " + ward + ", 20)", Town::busy, x -> x.ask(23, ward, 20), PlateHire.NONE);
        }
        PlateHire x = new PlateHire();
        due.is("ward 0", x.ask(7, 0, 3), 0);
        due.is("ward 4", x.ask(7, 4, 4), 0);
        due.is("ward 0", x.ask(7, 0, 0), 3);
        due.is("ward 4", x.ask(7, 4, 0), 4);
    }

    private static void howMany() {
        due.says("for each hour of the day and WARD a number (0 .. 20; 0 at first)");
        for (int n : Due.beyond(0, 20)) {
            due.unchanged("ask(0, 0, " + n + ")", Town::busy, x -> x.ask(0, 0, n), PlateHire.BAD);
            due.unchanged("ask(23, 4, " + n + ")", Town::full, x -> x.ask(23, 4, n), PlateHire.BAD);
        }
        PlateHire x = new PlateHire();
        int was = 0;
        for (int n = 0; n <= 20; n++) {
            due.is("ask(5, 2, " + n + ")", x.ask(5, 2, n), was);
            was = n;
        }
        due.is("ask(5, 2, 0)", x.ask(5, 2, 0), 20);
        due.is("ask(5, 2, 0)", x.ask(5, 2, 0), 0);
    }

    private static void noneAheadOfBad() {
        due.says("NONE there is no such PLATE, DRIVER, SHIFT, WARD, LOAN, hour, what, i; BAD a number is not as told");
        due.unchanged("hour and number", Town::busy, x -> x.ask(24, 0, 21), PlateHire.NONE);
        due.unchanged("ward and number", Town::busy, x -> x.ask(0, 5, -1), PlateHire.NONE);
        due.unchanged("all", Town::busy, x -> x.ask(-1, -1, -1), PlateHire.NONE);
    }

    private static void whatTheyWere() {
        due.says("ASKS: what they were.");
        PlateHire x = new PlateHire();
        due.is("at first", x.ask(23, 4, 20), 0);
        due.is("then", x.ask(23, 4, 7), 20);
        due.is("a refusal changes nothing", x.ask(23, 4, 21), PlateHire.BAD);
        due.is("then", x.ask(23, 4, 7), 7);
        due.is("the same", x.ask(23, 4, 0), 7);
    }

    private static void eachHourAndWard() {
        due.says("for each hour of the day and WARD a number (0 .. 20; 0 at first)");
        PlateHire x = new PlateHire();
        for (int round = 0; round < 3; round++) {
            for (int i = 0; i < 120; i++) {
                int want = round == 0 ? 0 : (i * 11 + round - 1) % 21;
                due.is("hour " + i / 5 + ", ward " + i % 5, x.ask(i / 5, i % 5, (i * 11 + round) % 21), want);
            }
        }
    }

    private static void theyCome() {
        due.says("An hour: 1 ASKS come to those who WAIT in each WARD.");
        PlateHire x = new PlateHire();
        x.ask(0, 0, 20);
        x.ask(0, 4, 20);
        x.ask(23, 2, 1);
        x.ask(1, 3, 9);
        x.ask(1, 3, 0);
        due.is("none comes of what is taken back", x.tried(0, 5, 1), 40);
        due.is("and at hour 23", x.tried(0, 26, 1), 81 - 40);
        due.is("and the next day's at hour 26", x.tried(0, 27, 1), 81);
    }
}
