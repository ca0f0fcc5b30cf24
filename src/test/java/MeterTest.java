/** Promises 8 to 10: the tape, the law and the fare. */
public final class MeterTest {
    private static final Due due = new Due("meter");

    public static void main(String[] args) {
        feed();
        feedFull();
        goodLaws();
        faults();
        faultBehindLongerTape();
        faultKeepsLaw();
        fareRefusals();
        fareClauses();
        fareCaps();
        due.end();
    }

    private static void feed() {
        PlateHire x = new PlateHire();
        due.is("feed(0, 0)", x.feed(0, 0), PlateHire.BAD);
        due.is("feed(0, 9)", x.feed(0, 9), PlateHire.BAD);
        due.is("feed(0, -1)", x.feed(0, -1), PlateHire.BAD);
        due.is("count(9)", x.count(9), 0);
        // "base 1", of which the highest byte comes first; what lies above the n lowest is not looked at
        due.is("feed 4", x.feed(0x7777777762617365L, 4), 4);
        due.is("feed 2", x.feed(0x7777777777772031L, 2), 6);
        due.is("count(9)", x.count(9), 6);
        due.is("law()", x.law(), 1);
        due.is("count(9)", x.count(9), 0);
        due.is("fare", x.fare(0, 0, 12, 0), 1);
        due.is("feed 8", x.feed(0x6361702030303030L, 8), 8);
        due.is("law()", x.law(), 1);
        due.is("feed with the highest bit", x.feed(-1L, 8), 8);
        due.is("law()", x.law(), -10);
    }

    private static void feedFull() {
        PlateHire x = new PlateHire();
        for (int i = 1; i <= 14; i++) {
            due.is("feed up to 112", x.feed(0, 8), 8 * i);
        }
        due.is("7 more", x.feed(0, 7), 119);
        due.is("2 too many", x.feed(0, 2), PlateHire.FULL);
        due.is("wrong, too", x.feed(0, 9), PlateHire.BAD);
        due.is("count(9)", x.count(9), 119);
        due.is("the last one", x.feed(0, 1), 120);
        due.is("1 too many", x.feed(0, 1), PlateHire.FULL);
        due.is("law()", x.law(), -10);
        due.is("empty then", x.count(9), 0);
    }

    private static void goodLaws() {
        PlateHire x = new PlateHire();
        due.is("one", Due.law(x, "base 0"), 1);
        due.is("four digits", Due.law(x, "night 9999"), 1);
        due.is("zeros", Due.law(x, "cap 0000"), 1);
        due.is("all", Due.law(x, "base 1;step 2;night 3;ward 4 5;wait 6;cap 789"), 6);
        due.is("the same six times", Due.law(x, "ward 0 1234;ward 1 1234;ward 2 1234;ward 3 1234;ward 4 1234;ward 0 1"), 6);
        due.is("two", Due.law(x, "wait 1;ward 0 1"), 2);
    }

    private static void fault(String text, int place) {
        PlateHire x = new PlateHire();
        due.is("law of \"" + text + "\"", Due.law(x, text), -10 - place);
        due.is("the tape behind \"" + text + "\"", x.count(9), 0);
    }

    private static void faults() {
        fault("", 0);
        fault("x", 0);
        fault(";", 0);
        fault(" base 1", 0);
        fault("Base 1", 0);
        fault("b", 1);
        fault("bass 1", 3);
        fault("base", 4);
        fault("base1", 4);
        fault("base ", 5);
        fault("base  1", 5);
        fault("base -1", 5);
        fault("base x", 5);
        fault("base 12345", 9);
        fault("base 1 ", 6);
        fault("base 1;", 7);
        fault("base 1;;", 7);
        fault("base 1; step 1", 7);
        fault("base 1,step 1", 6);
        fault("stop 1", 2);
        fault("nightly 1", 5);
        fault("wa", 2);
        fault("was 1", 2);
        fault("wart 1", 3);
        fault("waid 1", 3);
        fault("ward", 4);
        fault("ward 5 1", 5);
        fault("ward x 1", 5);
        fault("ward 4", 6);
        fault("ward 44 1", 6);
        fault("ward 4 ", 7);
        fault("ward 4;", 6);
        fault("ward 4 12345", 11);
        fault("cab 1", 2);
        fault("caps 1", 3);
        fault("cap 1;cap", 9);
        fault("cap :", 4);
        fault("cap /", 4);
        fault("cap 1:", 5);
        fault("cap 1/", 5);
        fault("cap 999:", 7);
        String six = "cap 1;cap 1;cap 1;cap 1;cap 1;cap 1";
        fault(six + ";", six.length());
        fault(six + ";cap 1", six.length());
        fault(six + "2345", six.length() + 3);
        fault("cap 1;cap 1;cap 1;cap 1;cap 1;", 30);
        fault("cap 1" + (char) 0, 5);
        fault("cap 1" + (char) 187, 5);
    }

    /** What an earlier tape had behind the end of this one is not read. */
    private static void faultBehindLongerTape() {
        String whole = "ward 4 12;night 34";
        for (int length = 0; length < whole.length(); length++) {
            PlateHire x = new PlateHire();
            due.is("the whole", Due.law(x, whole), 2);
            boolean good = length >= 8 && length <= 9;
            boolean alsoGood = length == 17;
            int want = good ? 1 : alsoGood ? 2 : -10 - length;
            due.is("the first " + length + " bytes", Due.law(x, whole.substring(0, length)), want);
        }
    }

    private static void faultKeepsLaw() {
        PlateHire x = new PlateHire();
        due.is("base 50;cap 40", Due.law(x, "base 50;cap 40"), 2);
        due.is("fare", x.fare(0, 0, 12, 0), 40);
        due.is("a fault behind clauses", Due.law(x, "base 60;step 1;"), -25);
        due.is("the law stays", x.fare(0, 4, 12, 0), 40);
        due.is("an empty tape is a fault", x.law(), -10);
        due.is("the law stays", x.fare(0, 4, 12, 0), 40);
        due.is("a shorter law", Due.law(x, "base 60"), 1);
        due.is("is all of it", x.fare(0, 4, 12, 0), 60);
    }

    private static void fareRefusals() {
        PlateHire x = new PlateHire();
        Due.law(x, "base 5");
        due.is("fare(-1, 0, 0, 0)", x.fare(-1, 0, 0, 0), PlateHire.NONE);
        due.is("fare(5, 0, 0, 0)", x.fare(5, 0, 0, 0), PlateHire.NONE);
        due.is("fare(0, -1, 0, 0)", x.fare(0, -1, 0, 0), PlateHire.NONE);
        due.is("fare(0, 5, 0, 0)", x.fare(0, 5, 0, 0), PlateHire.NONE);
        due.is("NONE is ahead of BAD", x.fare(0, 5, 24, 0), PlateHire.NONE);
        due.is("fare(0, 0, -1, 0)", x.fare(0, 0, -1, 0), PlateHire.BAD);
        due.is("fare(0, 0, 24, 0)", x.fare(0, 0, 24, 0), PlateHire.BAD);
        due.is("fare(0, 0, 0, -1)", x.fare(0, 0, 0, -1), PlateHire.BAD);
        due.is("fare(0, 0, 0, 10)", x.fare(0, 0, 0, 10), PlateHire.BAD);
        due.is("fare(4, 4, 23, 9)", x.fare(4, 4, 23, 9), 5);
    }

    private static void fareClauses() {
        PlateHire x = new PlateHire();
        Due.law(x, "base 100");
        due.is("base", x.fare(3, 1, 0, 9), 100);
        Due.law(x, "step 10");
        due.is("step up", x.fare(1, 4, 12, 9), 30);
        due.is("step down", x.fare(4, 0, 12, 9), 40);
        due.is("step at home", x.fare(2, 2, 12, 9), 0);
        Due.law(x, "night 7");
        for (int hour = 0; hour < 24; hour++) {
            due.is("night at " + hour, x.fare(0, 1, hour, 3), hour < 6 || hour > 19 ? 7 : 0);
        }
        Due.law(x, "ward 3 8");
        due.is("ward from", x.fare(3, 1, 0, 0), 8);
        due.is("ward to", x.fare(0, 3, 0, 0), 8);
        due.is("ward both", x.fare(3, 3, 0, 0), 8);
        due.is("ward neither", x.fare(2, 4, 0, 0), 0);
        Due.law(x, "wait 6");
        due.is("wait 0", x.fare(2, 4, 0, 0), 0);
        due.is("wait 9", x.fare(2, 4, 0, 9), 54);
        Due.law(x, "base 1;base 20;ward 0 300;ward 1 4000");
        due.is("together", x.fare(0, 1, 0, 0), 4321);
    }

    private static void fareCaps() {
        PlateHire x = new PlateHire();
        Due.law(x, "cap 30;base 40;cap 20;cap 25");
        due.is("the least cap", x.fare(0, 0, 12, 0), 20);
        Due.law(x, "cap 41;base 40");
        due.is("below the cap", x.fare(0, 0, 12, 0), 40);
        Due.law(x, "cap 0;base 40");
        due.is("cap 0", x.fare(0, 0, 12, 0), 0);
        Due.law(x, "cap 9");
        due.is("a cap alone", x.fare(0, 0, 12, 0), 0);
        Due.law(x, "wait 9999;base 9999;wait 9999");
        due.is("99999 without any", x.fare(0, 0, 12, 9), 99999);
        due.is("below it", x.fare(0, 0, 12, 4), 89991);
        Due.law(x, "wait 9999;wait 9999;wait 9999;wait 9999;wait 9999;wait 9999");
        due.is("far above", x.fare(0, 0, 12, 9), 99999);
    }
}
