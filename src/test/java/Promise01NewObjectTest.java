/** Promise 1: a new object. */
public final class Promise01NewObjectTest {
    private static final Due due = new Due("promise 1, a new object");

    public static void main(String[] args) {
        nothingIsCounted();
        noPlates();
        noDriversRidesLoans();
        nothingToDo();
        noAsksNoLaw();
        hourNought();
        objectsAreApart();
        lastCall();
        due.end();
    }

    private static void nothingIsCounted() {
        due.says("Nothing is there; hour 0.");
        PlateHire x = new PlateHire();
        for (int what = 0; what <= 10; what++) {
            due.is("count(" + what + ")", x.count(what), 0);
        }
    }

    private static void noPlates() {
        due.says("Nothing is there; hour 0.");
        PlateHire x = new PlateHire();
        for (int p = -1; p <= 1; p++) {
            for (int what = 0; what < 8; what++) {
                due.is("about(" + p + ", " + what + ")", x.about(p, what), PlateHire.NONE);
            }
            due.is("drive(" + p + ", 0, -1)", x.drive(p, 0, -1), -5);
            due.is("stand(" + p + ", -1)", x.stand(p, -1), -5);
            due.is("value(" + p + ", 1, 0)", x.value(p, 1, 0), PlateHire.NONE);
            due.is("rent(" + p + ", 0, 0)", x.rent(p, 0, 0), PlateHire.NONE);
            due.is("loan(" + p + ", 0, 1)", x.loan(p, 0, 1), PlateHire.NONE);
            due.is("owes(" + p + ")", x.owes(p), PlateHire.NONE);
            due.is("over(" + p + ", 0)", x.over(p, 0), PlateHire.NONE);
            due.is("rescue(" + p + ", 0, 1, 0)", x.rescue(p, 0, 1, 0), PlateHire.NONE);
            due.is("join(" + p + ")", x.join(p), PlateHire.NONE);
            due.is("leave(" + p + ")", x.leave(p), PlateHire.NONE);
        }
    }

    private static void noDriversRidesLoans() {
        due.says("Nothing is there; hour 0.");
        PlateHire x = new PlateHire();
        for (int i = -1; i <= 1; i++) {
            due.is("driven(" + i + ", 0)", x.driven(i, 0), PlateHire.NONE);
            due.is("rode(" + i + ", 0)", x.rode(i, 0), PlateHire.NONE);
            due.is("found, i " + i, x.found(0, 400, -1, -1, i), PlateHire.NONE);
            due.is("part(" + i + ", 0)", x.part(i, 0), PlateHire.NONE);
        }
    }

    private static void nothingToDo() {
        due.says("Nothing is there; hour 0.");
        PlateHire x = new PlateHire();
        due.is("fill()", x.fill(), 0);
        due.is("law()", x.law(), -10);
        due.is("fails(1, 0)", x.fails(1, 0), 0);
        due.is("unswap()", x.unswap(), 0);
        due.is("spread(0)", x.spread(0), 0);
        due.is("spread(1)", x.spread(1), 0);
        due.is("spread(2)", x.spread(2), PlateHire.NONE);
        due.is("call(0)", x.call(0), PlateHire.NONE);
        due.is("call(1)", x.call(1), PlateHire.NONE);
        for (int what = 0; what < 4; what++) {
            due.is("tried(0, 40, " + what + ")", x.tried(0, 40, what), 0);
        }
        due.is("tried(1, 1, 0)", x.tried(1, 1, 0), PlateHire.BAD);
        due.is("step(24)", x.step(24), 0);
        due.is("lost ones", x.count(4), 0);
    }

    private static void noAsksNoLaw() {
        PlateHire x = new PlateHire();
        due.says("No CLAUSES at first: 0.");
        for (int from = 0; from < 5; from++) {
            for (int to = 0; to < 5; to++) {
                due.is("fare(" + from + ", " + to + ", 0, 9)", x.fare(from, to, 0, 9), 0);
            }
        }
        due.says("for each hour of the day and WARD a number (0 .. 20; 0 at first)");
        for (int h = 0; h < 24; h++) {
            for (int ward = 0; ward < 5; ward++) {
                due.is("ask(" + h + ", " + ward + ", 0)", x.ask(h, ward, 0), 0);
            }
        }
    }

    private static void hourNought() {
        due.says("Nothing is there; hour 0.");
        PlateHire x = new PlateHire();
        x.ask(0, 1, 3);
        x.plate(0, 0, 0, 0);
        x.driver(2);
        x.drive(0, 1, 0);
        x.stand(0, 1);
        due.is("the first hour's ride", x.step(1), 1);
        due.is("its hour", x.rode(0, 0), 0);
        due.is("hours that went by", x.count(2), 1);
    }

    private static void objectsAreApart() {
        due.says("Nothing is there; hour 0.");
        for (int view = 0; view < Views.COUNT; view++) {
            PlateHire x = new PlateHire();
            Town.full();
            PlateHire y = new PlateHire();
            due.same("made ahead of a full one", x, y, view);
        }
        for (int view = 0; view < Views.COUNT; view++) {
            PlateHire x = Town.busy();
            Town.full();
            due.same("busy as ever", x, Town.busy(), view);
        }
    }

    private static void lastCall() {
        due.says("An object is used for at most 512 calls after it has been made");
        PlateHire x = new PlateHire();
        x.plate(2, 3, 0, 0);
        for (int call = 2; call < 512; call += 2) {
            due.is("call " + call, x.join(0), 1);
            due.is("call " + (call + 1), x.call(1), 0);
        }
        due.is("call 512", x.join(0), 1);

        x = new PlateHire();
        for (int call = 1; call <= 508; call += 4) {
            due.is("feed", x.feed(0x6261736520L, 5), 5);
            due.is("feed", x.feed('0' + call % 10, 1), 6);
            due.is("law", x.law(), 1);
            due.is("fare", x.fare(0, 0, 0, 0), call % 10);
        }
    }
}
