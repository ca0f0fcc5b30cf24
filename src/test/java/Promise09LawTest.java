/** Promise 9: law. */
public final class Promise09LawTest {
    private static final Due due = new Due("promise 9, law");
    private static final String SIX = "cap 1;cap 1;cap 1;cap 1;cap 1;cap 1";

    public static void main(String[] args) {
        howManyClauses();
        beyondSix();
        words();
        oneBlank();
        digits();
        wards();
        endsTooEarly();
        behindALongerTape();
        emptyThen();
        lawStays();
        lawIsAnother();
        anyByteAnywhere();
        due.end();
    }

    private static void good(String text, int clauses) {
        PlateHire x = new PlateHire();
        due.is("law of \"" + text + "\"", Town.law(x, text), clauses);
        due.is("the tape behind \"" + text + "\"", x.count(9), 0);
    }

    private static void fault(String text, int place) {
        good(text, -10 - place);
    }

    private static void howManyClauses() {
        due.says("CLAUSE;CLAUSE;.. (1 to 6)");
        fault("", 0);
        fault(";", 0);
        StringBuilder text = new StringBuilder("base 1");
        for (int clauses = 1; clauses <= 6; clauses++) {
            good(text.toString(), clauses);
            text.append(";base 1");
        }
        fault(text.toString(), 41);
        good("base 1;step 2;night 3;ward 4 5;wait 6;cap 789", 6);
        good("ward 0 1234;ward 1 1234;ward 2 1234;ward 3 1234;ward 4 1234;ward 0 1234", 6);
    }

    private static void beyondSix() {
        due.says("behind 6 CLAUSES the next ;)");
        fault(SIX + ";", 35);
        fault(SIX + ";cap 1", 35);
        fault(SIX + ";x", 35);
        fault(SIX + ";;", 35);
        fault(SIX + "234;", 38);
        fault(SIX + "2345", 38);
        fault(SIX + " ;", 35);
        fault("cap 1;cap 1;cap 1;cap 1;cap 1;", 30);
        String longest = "ward 0 1234;ward 1 1234;ward 2 1234;ward 3 1234;ward 4 1234;ward 0 1234";
        good(longest, 6);
        fault(longest + ";", 71);
        fault(longest + "5", 71);
        fault(longest + ";".repeat(49), 71);
        good(longest.substring(0, 70), 6);
    }

    private static void words() {
        due.says("base N, step N, night N, ward W N, wait N, cap N");
        for (String word : new String[] {"base ", "step ", "night ", "ward 0 ", "wait ", "cap "}) {
            good(word + "1", 1);
            good(word + "0", 1);
            good("cap 9;" + word + "9999", 2);
        }
        due.says("The FAULT is the place of the first byte with which none begins so");
        fault("x", 0);
        fault("Base 1", 0);
        fault("a", 0);
        fault("1", 0);
        fault(" base 1", 0);
        fault("bass 1", 3);
        fault("bose 1", 1);
        fault("bbse 1", 1);
        fault("base1", 4);
        fault("bases 1", 4);
        fault("stop 1", 2);
        fault("stef 1", 3);
        fault("nigh 1", 4);
        fault("nightly 1", 5);
        fault("was 1", 2);
        fault("wart 1", 3);
        fault("waid 1", 3);
        fault("waits 1", 4);
        fault("cab 1", 2);
        fault("caps 1", 3);
        fault("cap 1;cab 1", 8);
        fault("cap 1;Cap 1", 6);
    }

    private static void oneBlank() {
        due.says("one blank between");
        fault("base  1", 5);
        fault("base\t1", 4);
        fault("ward  1 1", 5);
        fault("ward 1  1", 7);
        fault("ward 11", 6);
        fault("ward 1;", 6);
        fault("base 1 ", 6);
        fault("base 1 ;cap 1", 6);
        fault("base 1; cap 1", 7);
        fault("base 1;;cap 1", 7);
        fault("base 1,cap 1", 6);
        fault("base 1cap 1", 6);
    }

    private static void digits() {
        due.says("N 1 to 4 digits, W a digit 0 .. 4");
        for (String word : new String[] {"base ", "step ", "night ", "ward 0 ", "wait ", "cap "}) {
            int at = word.length();
            fault(word, at);
            fault(word + ";", at);
            fault(word + "x", at);
            fault(word + "-1", at);
            fault(word + "+1", at);
            good(word + "1", 1);
            good(word + "12", 1);
            good(word + "123", 1);
            good(word + "1234", 1);
            good(word + "0000", 1);
            fault(word + "12345", at + 4);
            fault(word + "00000", at + 4);
            fault(word + "1234x", at + 4);
            fault(word + "1x", at + 1);
            fault(word + "/", at);
            fault(word + ":", at);
            fault(word + "1/", at + 1);
            fault(word + "1:", at + 1);
            fault(word + "123/", at + 3);
            fault(word + "123:", at + 3);
            good(word + "1234;cap 9", 2);
        }
        PlateHire x = new PlateHire();
        for (int n : new int[] {0, 9, 10, 99, 100, 999, 1000, 9999}) {
            due.is("base " + n, Town.law(x, "base " + n), 1);
            due.is("fare by base " + n, x.fare(0, 0, 12, 0), n);
        }
        Town.law(x, "base 0042");
        due.is("fare by base 0042", x.fare(0, 0, 12, 0), 42);
    }

    private static void wards() {
        due.says("N 1 to 4 digits, W a digit 0 .. 4");
        PlateHire x = new PlateHire();
        for (int ward = 0; ward <= 4; ward++) {
            due.is("ward " + ward, Town.law(x, "ward " + ward + " 7"), 1);
            for (int w = 0; w < 5; w++) {
                due.is("fare in " + w + " by ward " + ward, x.fare(w, w, 12, 0), w == ward ? 7 : 0);
            }
        }
        fault("ward 5 1", 5);
        fault("ward 9 1", 5);
        fault("ward / 1", 5);
        fault("ward -1 1", 5);
        fault("ward 00 1", 6);
        fault("ward 44 1", 6);
        fault("ward x 1", 5);
        fault("ward 4 12345", 11);
        fault("base 4 1", 6);
    }

    private static void endsTooEarly() {
        due.says("(the end of THE TAPE, if it ends too early;");
        for (String text : new String[] {"base 1", "step 1", "night 1", "ward 0 1", "wait 1", "cap 1"}) {
            for (int length = 0; length < text.length(); length++) {
                fault(text.substring(0, length), length);
                fault("base 12;" + text.substring(0, length), 8 + length);
            }
        }
        fault("base 1;", 7);
        fault("cap 1;cap 1;", 12);
    }

    /** What an earlier tape had behind the end of this one is not read. */
    private static void behindALongerTape() {
        due.says("(the end of THE TAPE, if it ends too early;");
        String whole = "ward 4 12;night 34";
        for (int length = 0; length < whole.length(); length++) {
            PlateHire x = new PlateHire();
            due.is("the whole", Town.law(x, whole), 2);
            int want = length == 8 || length == 9 ? 1 : length == 17 ? 2 : -10 - length;
            due.is("the first " + length + " bytes", Town.law(x, whole.substring(0, length)), want);
        }
    }

    private static void emptyThen() {
        due.says("THE TAPE, which is empty then, is THE LAW: how many CLAUSES; -10 less the FAULT");
        PlateHire x = new PlateHire();
        due.is("a law", Town.law(x, "base 1;cap 2"), 2);
        due.is("count(9)", x.count(9), 0);
        due.is("law() of an empty tape", x.law(), -10);
        due.is("a fault", Town.law(x, "base 1;cap x"), -21);
        due.is("count(9)", x.count(9), 0);
        due.is("law() of an empty tape", x.law(), -10);
        due.is("nothing is left of it", Town.law(x, "step 3"), 1);
        due.is("fare", x.fare(0, 2, 12, 0), 6);
    }

    private static PlateHire lawful() {
        PlateHire x = Town.busy();
        x.law();
        Town.law(x, "base 110;step 13;night 25;ward 3 9;wait 7;cap 180");
        return x;
    }

    private static void lawStays() {
        due.says("(THE TAPE is empty then, too, THE LAW stays)");
        due.unchanged("law() of an empty tape", Promise09LawTest::lawful, PlateHire::law, -10);
        due.unchanged("a fault at the end", Promise09LawTest::lawful, x -> Town.law(x, "base 60;step 1;"), -25);
        due.unchanged("a fault behind five", Promise09LawTest::lawful,
            x -> Town.law(x, "base 6;base 6;base 6;base 6;base 6;x"), -45);
        due.unchanged("a seventh", Promise09LawTest::lawful, x -> Town.law(x, SIX + ";cap 1"), -45);
        due.unchanged("at once", Promise09LawTest::lawful, x -> Town.law(x, "x"), -10);
        PlateHire x = new PlateHire();
        due.is("a fault ahead of any law", Town.law(x, "base 60;"), -18);
        due.is("no clauses still", x.fare(0, 4, 0, 9), 0);
    }

    private static void lawIsAnother() {
        due.says("THE TAPE, which is empty then, is THE LAW: how many CLAUSES; -10 less the FAULT");
        PlateHire x = new PlateHire();
        due.is("six", Town.law(x, "base 1;base 20;base 300;base 4000;step 5;night 6"), 6);
        due.is("fare", x.fare(0, 1, 0, 0), 4332);
        due.is("one", Town.law(x, "base 60"), 1);
        due.is("is all of it", x.fare(0, 4, 0, 9), 60);
        due.is("six again", Town.law(x, SIX), 6);
        due.is("without the one", x.fare(0, 4, 0, 9), 0);
        due.is("two", Town.law(x, "base 7;step 1"), 2);
        due.is("without the caps", x.fare(0, 4, 0, 9), 11);
    }

    /** Each byte at each place of a law: against a reading by patterns. */
    private static void anyByteAnywhere() {
        due.says("The FAULT is the place of the first byte with which none begins so");
        String text = "night 12;ward 4 3456;wait 7;cap 89;step 0;base 1";
        for (int place = 0; place <= text.length(); place++) {
            for (int b = 0; b < 256; b++) {
                StringBuilder other = new StringBuilder(text);
                other.setLength(Math.max(text.length(), place + 1));
                other.setCharAt(place, (char) b);
                PlateHire x = new PlateHire();
                SlowHire y = new SlowHire();
                for (int i = 0; i < other.length(); i++) {
                    y.feed(other.charAt(i), 1);
                }
                due.is("byte " + b + " at " + place, Town.law(x, other.toString()), y.law());
            }
        }
    }
}
