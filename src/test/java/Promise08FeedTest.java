/** Promise 8: feed. */
public final class Promise08FeedTest {
    private static final Due due = new Due("promise 8, feed");

    public static void main(String[] args) {
        howManyBytes();
        highestFirst();
        everyByte();
        behindTheOthers();
        full();
        badAheadOfFull();
        emptyAgain();
        due.end();
    }

    private static PlateHire withTape(int size) {
        PlateHire x = new PlateHire();
        for (int i = 0; i < size / 8; i++) {
            x.feed(0x7761726420342031L, 8);
        }
        if (size % 8 > 0) {
            x.feed(0x7761726420342031L, size % 8);
        }
        return x;
    }

    private static void howManyBytes() {
        due.says("BAD: n not 1 .. 8; FULL.");
        for (int n : Due.beyond(1, 8)) {
            due.unchanged("feed(0, " + n + ")", Town::busy, x -> x.feed(0x3939393939393939L, n), PlateHire.BAD);
            due.unchanged("the first, feed(0, " + n + ")", PlateHire::new, x -> x.feed(0, n), PlateHire.BAD);
        }
        for (int n = 1; n <= 8; n++) {
            PlateHire x = new PlateHire();
            due.is("feed(0, " + n + ")", x.feed(0, n), n);
            due.is("count(9)", x.count(9), n);
            due.is("and once more", x.feed(-1L, n), 2 * n);
        }
    }

    private static void highestFirst() {
        due.says("The n lowest bytes of w, the highest first, come behind THE TAPE's: how many it has.");
        PlateHire x = new PlateHire();
        // "base", then " 1": what lies above the n lowest is not looked at
        due.is("feed 4", x.feed(0x7777777762617365L, 4), 4);
        due.is("feed 2", x.feed(0x7777777777772031L, 2), 6);
        due.is("law()", x.law(), 1);
        due.is("fare", x.fare(0, 0, 12, 0), 1);
        due.is("all eight: cap 0000", x.feed(0x6361702030303030L, 8), 8);
        due.is("law()", x.law(), 1);
        x.feed(0x6261736520L, 5);
        due.is("the lowest one", x.feed(0x3132333435363738L, 1), 6);
        due.is("law()", x.law(), 1);
        due.is("fare", x.fare(0, 0, 12, 0), 8);
        x.feed(0x6261736520L, 5);
        due.is("the lowest four", x.feed(0x3132333435363738L, 4), 9);
        due.is("law()", x.law(), 1);
        due.is("fare", x.fare(0, 0, 12, 0), 5678);
        due.is("seven: step 42", x.feed(0xff7374657020343AL, 7), 7);
        due.is("of which the last is none", x.law(), -16);
    }

    private static void everyByte() {
        due.says("The n lowest bytes of w, the highest first, come behind THE TAPE's: how many it has.");
        for (int b = 0; b < 256; b++) {
            boolean digit = b >= '0' && b <= '9';
            PlateHire x = new PlateHire();
            Town.feed(x, "base ");
            x.feed(b | 0x5555555555555500L, 1);
            due.is("base and byte " + b, x.law(), digit ? 1 : -15);
            x = new PlateHire();
            x.feed(((long) b << 56) | 0x61736520313233L, 8);
            due.is("byte " + b + " as the highest", x.law(), byteAheadOfAse(b));
        }
    }

    /** What law answers to a byte and "ase 123": two clauses' words go on with an a, others with another sign. */
    private static int byteAheadOfAse(int b) {
        switch (b) {
            case 'b': return 1;
            case 'c': case 'w': return -12;
            case 's': case 'n': return -11;
            default: return -10;
        }
    }

    private static void behindTheOthers() {
        due.says("The n lowest bytes of w, the highest first, come behind THE TAPE's: how many it has.");
        String text = "night 1234;ward 4 56";
        for (int n = 1; n <= 8; n++) {
            PlateHire x = new PlateHire();
            for (int at = 0; at < text.length(); at += n) {
                int m = Math.min(n, text.length() - at);
                long w = 0;
                for (int i = 0; i < m; i++) {
                    w = w << 8 | text.charAt(at + i);
                }
                due.is("by " + n + ", from " + at, x.feed(w, m), at + m);
            }
            due.is("law() by " + n, x.law(), 2);
            due.is("fare by " + n, x.fare(4, 0, 0, 0), 1290);
        }
    }

    private static void full() {
        due.says("THE TAPE (bytes, 120 at most)");
        for (int n = 1; n <= 8; n++) {
            int m = n;
            due.is(n + " up to 120", withTape(120 - n).feed(0, n), 120);
            due.unchanged(n + " beyond 120 by 1", () -> withTape(121 - m), x -> x.feed(0, m), PlateHire.FULL);
            due.unchanged(n + " behind 120", () -> withTape(120), x -> x.feed(0, m), PlateHire.FULL);
        }
        due.unchanged("1 more", Town::full, x -> x.feed(0, 1), PlateHire.FULL);
        PlateHire x = withTape(119);
        due.is("2 are too many", x.feed(0, 2), PlateHire.FULL);
        due.is("none of them came", x.count(9), 119);
        due.is("1 comes still", x.feed(0, 1), 120);
        due.is("no other", x.feed(0, 1), PlateHire.FULL);
        due.is("count(9)", x.count(9), 120);
    }

    private static void badAheadOfFull() {
        due.says("REFUSALS, of several the first one told");
        for (int n : Due.beyond(1, 8)) {
            due.unchanged("feed(0, " + n + ") of a full tape", Town::full, x -> x.feed(0, n), PlateHire.BAD);
        }
        due.unchanged("9 where 1 is left", () -> withTape(119), x -> x.feed(0, 9), PlateHire.BAD);
    }

    private static void emptyAgain() {
        due.says("THE TAPE, which is empty then, is THE LAW");
        PlateHire x = withTape(120);
        due.is("a fault", x.law(), -18);
        due.is("feed from its beginning", x.feed(0x6361702032L, 5), 5);
        due.is("law()", x.law(), 1);
        due.is("feed from its beginning", x.feed(0x6361702032L, 5), 5);
        for (int i = 0; i < 14; i++) {
            due.is("feed", x.feed(0, 8), 13 + 8 * i);
        }
        due.is("up to 120", x.feed(0, 3), 120);
        due.is("and no more", x.feed(0, 1), PlateHire.FULL);
    }
}
