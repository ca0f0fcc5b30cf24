/** Promise 4: drive. */
public final class Promise04DriveTest {
    private static final Due due = new Due("promise 4, drive");

    public static void main(String[] args) {
        noSuchPlate();
        noSuchShift();
        noSuchDriver();
        nobody();
        whoHadIt();
        oneShiftOfAll();
        theSameAgain();
        firstAndLast();
        whatWasDrivenStays();
        due.end();
    }

    private static void noSuchPlate() {
        due.says("-5: there is none such.");
        for (int p : Due.beyond(0, 7)) {
            due.unchanged("drive(" + p + ", 0, 0)", Town::busy, x -> x.drive(p, 0, 0), -5);
            due.unchanged("drive(" + p + ", 1, -1)", Town::busy, x -> x.drive(p, 1, -1), -5);
        }
        due.unchanged("a plate of a full town", Town::full, x -> x.drive(12, 0, 0), -5);
        due.unchanged("all is wrong", Town::busy, x -> x.drive(8, 2, 11), -5);
    }

    private static void noSuchShift() {
        due.says("Each PLATE has two SHIFTS, day (0) and night (1), each with one DRIVER or none");
        for (int shift : Due.beyond(0, 1)) {
            due.unchanged("drive(0, " + shift + ", 0)", Town::busy, x -> x.drive(0, shift, 0), -5);
            due.unchanged("drive(7, " + shift + ", -1)", Town::busy, x -> x.drive(7, shift, -1), -5);
        }
        PlateHire x = Town.withDrivers(1, 2, 2);
        due.is("day", x.drive(0, 0, 0), PlateHire.NONE);
        due.is("night", x.drive(0, 1, 1), PlateHire.NONE);
        due.is("day's driver", x.about(0, 2), 0);
        due.is("night's driver", x.about(0, 3), 1);
    }

    private static void noSuchDriver() {
        due.says("A DRIVER (-1: nobody) has a SHIFT, and no other one any more: who had it (NONE).");
        for (int d : Due.beyond(-1, 10)) {
            due.unchanged("drive(0, 0, " + d + ")", Town::busy, x -> x.drive(0, 0, d), -5);
        }
        due.unchanged("driver 16 of a full town", Town::full, x -> x.drive(0, 0, 16), -5);
        due.unchanged("driver 0, if there is none", () -> Town.plates(0), x -> x.drive(0, 0, 0), -5);
        due.unchanged("nobody, if there is none", () -> Town.plates(0), x -> x.drive(0, 0, -1), PlateHire.NONE);
    }

    private static void nobody() {
        due.says("A DRIVER (-1: nobody) has a SHIFT, and no other one any more: who had it (NONE).");
        PlateHire x = Town.withDrivers(2, 2, 2, 2);
        due.is("nobody where nobody is", x.drive(0, 1, -1), PlateHire.NONE);
        x.drive(0, 0, 2);
        x.drive(0, 1, 0);
        x.drive(1, 0, 1);
        due.is("nobody now", x.drive(0, 0, -1), 2);
        due.is("day of 0", x.about(0, 2), PlateHire.NONE);
        due.is("night of 0 is as before", x.about(0, 3), 0);
        due.is("day of 1 is as before", x.about(1, 2), 1);
        due.is("nobody once more", x.drive(0, 0, -1), PlateHire.NONE);
    }

    private static void whoHadIt() {
        due.says("who had it (NONE)");
        PlateHire x = Town.withDrivers(2, 2, 2);
        due.is("nobody had it", x.drive(1, 1, 1), PlateHire.NONE);
        due.is("driver 1 had it", x.drive(1, 1, 0), 1);
        due.is("night of 1", x.about(1, 3), 0);
        due.is("driver 1 has none", x.fill(), 2);
        due.is("so the first shift is filled by him", x.about(0, 2), 1);
    }

    private static void oneShiftOfAll() {
        due.says("a DRIVER has one SHIFT of all at most");
        PlateHire x = Town.withDrivers(3, 2, 2);
        int[][] places = {{0, 0}, {0, 1}, {2, 1}, {1, 0}, {2, 0}, {0, 0}};
        x.drive(1, 1, 1);
        for (int[] place : places) {
            due.is("driver 0 moves", x.drive(place[0], place[1], 0), PlateHire.NONE);
            for (int p = 0; p < 3; p++) {
                for (int shift = 0; shift < 2; shift++) {
                    boolean here = p == place[0] && shift == place[1];
                    int want = here ? 0 : p == 1 && shift == 1 ? 1 : PlateHire.NONE;
                    due.is("shift " + shift + " of plate " + p, x.about(p, 2 + shift), want);
                }
            }
        }
        due.is("and pushes the other out", x.drive(1, 1, 0), 1);
        due.is("where driver 0 was", x.about(0, 2), PlateHire.NONE);
        due.is("where driver 0 is", x.about(1, 3), 0);
    }

    private static void theSameAgain() {
        due.says("who had it (NONE)");
        PlateHire x = Town.withDrivers(1, 2);
        x.drive(0, 1, 0);
        due.is("he had it himself", x.drive(0, 1, 0), 0);
        due.is("and has it", x.about(0, 3), 0);
        due.is("day is as before", x.about(0, 2), PlateHire.NONE);
    }

    private static void firstAndLast() {
        due.says("DRIVERS are numbered from 0 on, 16 at most");
        PlateHire x = Town.withDrivers(12, 0, 0, 0, 0, 0, 0, 0, 0, 0, 0, 0, 0, 0, 0, 0, 0);
        due.is("drive(0, 0, 15)", x.drive(0, 0, 15), PlateHire.NONE);
        due.is("day of 0", x.about(0, 2), 15);
        due.is("drive(11, 1, 15)", x.drive(11, 1, 15), PlateHire.NONE);
        due.is("day of 0", x.about(0, 2), PlateHire.NONE);
        due.is("night of 11", x.about(11, 3), 15);
        due.is("drive(11, 1, 0)", x.drive(11, 1, 0), 15);
        due.is("drive(0, 0, 0)", x.drive(0, 0, 0), PlateHire.NONE);
        due.is("night of 11", x.about(11, 3), PlateHire.NONE);
    }

    private static void whatWasDrivenStays() {
        due.says("A DRIVER (-1: nobody) has a SHIFT, and no other one any more: who had it (NONE).");
        PlateHire x = Town.withDrivers(1, 2);
        x.drive(0, 1, 0);
        x.stand(0, 0);
        x.step(3);
        x.drive(0, 1, -1);
        due.is("hours of the driver", x.driven(0, 1), 3);
        due.is("hours of the plate", x.about(0, 4), 3);
        x.step(1);
        due.is("no hour more of the driver", x.driven(0, 1), 3);
        due.is("no hour more of the plate", x.about(0, 4), 3);
    }
}
