/** Objects with a past, made by fewer than 200 calls each. */
final class Town {
    private Town() { }

    static PlateHire plates(int... kinds) {
        PlateHire x = new PlateHire();
        for (int kind : kinds) {
            x.plate(kind, 0, 0, 0);
        }
        return x;
    }

    /** Plain plates, and drivers with these wishes. */
    static PlateHire withDrivers(int plates, int... wishes) {
        PlateHire x = plates(new int[plates]);
        for (int wish : wishes) {
            x.driver(wish);
        }
        return x;
    }

    /** Up to eight plates of a kind, with driver 2p by day and 2p + 1 by night. */
    static PlateHire cabs(int kind, int n) {
        PlateHire x = new PlateHire();
        for (int p = 0; p < n; p++) {
            x.plate(kind, 0, 0, 0);
            x.driver(2);
            x.driver(2);
            x.drive(p, 0, 2 * p);
            x.drive(p, 1, 2 * p + 1);
        }
        return x;
    }

    static PlateHire fleets(int... sets) {
        PlateHire x = new PlateHire();
        for (int set : sets) {
            x.swap(set);
        }
        return x;
    }

    /** Plain plates of which each has one loan: these sums, all of rank 0. */
    static PlateHire owing(int... sums) {
        PlateHire x = plates(new int[sums.length]);
        for (int p = 0; p < sums.length; p++) {
            x.loan(p, 0, sums[p]);
        }
        return x;
    }

    /** Feeds a whole text to the tape, eight bytes a call and the rest by one more. */
    static void feed(PlateHire x, String text) {
        for (int at = 0; at < text.length(); at += 8) {
            int n = Math.min(8, text.length() - at);
            long w = 0;
            for (int i = 0; i < n; i++) {
                w = w << 8 | text.charAt(at + i);
            }
            x.feed(w, n);
        }
    }

    static int law(PlateHire x, String text) {
        feed(x, text);
        return x.law();
    }

    static void hours(PlateHire x, int n) {
        for (int left = n; left > 0; left -= 24) {
            x.step(Math.min(24, left));
        }
    }

    /** Something of everything, and room for more: 8 plates, 11 drivers, hour 8, 7 loans, 3 fleets, 4 in the line. */
    static PlateHire busy() {
        PlateHire x = new PlateHire();
        for (int p = 0; p < 8; p++) {
            x.plate(p % 4, p % 6, 1000 + 101 * p, 300 + 7 * p);
        }
        for (int d = 0; d < 9; d++) {
            x.driver(d % 3);
        }
        x.fill();
        x.driver(1);
        x.driver(0);
        law(x, "base 110;step 13;night 25;ward 3 9;wait 7;cap 180");
        for (int h = 0; h < 24; h++) {
            x.ask(h, (h * 2) % 5, 1 + h % 3);
            x.ask(h, (h * 3 + 1) % 5, h % 4);
        }
        for (int p = 0; p < 7; p++) {
            x.stand(p, p % 4 == 3 ? 3 : p % 5);
        }
        x.step(8);
        for (int i = 0; i < 7; i++) {
            x.loan(i % 3, i % 2, 400 + 333 * i);
        }
        x.swap(7);
        x.swap(3);
        x.swap(130);
        x.join(5);
        x.join(2);
        x.join(7);
        x.join(6);
        feed(x, "base 1;night 22;cap");
        return x;
    }

    /** As many of everything as there can be, at hour 400. */
    static PlateHire full() {
        PlateHire x = new PlateHire();
        for (int p = 0; p < 12; p++) {
            x.plate(p % 4, p % 6, 9999 - p, 5000 + p);
        }
        for (int d = 0; d < 16; d++) {
            x.driver(d % 3);
        }
        x.fill();
        x.fill();
        for (int p = 0; p < 12; p++) {
            x.stand(p, 2 + p % 3);
        }
        law(x, "base 9;step 3;night 5;ward 0 7;wait 2;cap 24");
        for (int h = 0; h < 24; h++) {
            x.ask(h, h % 5, 20);
        }
        hours(x, 400);
        for (int i = 0; i < 30; i++) {
            x.loan(i % 12, i % 10, 99999 - i);
        }
        for (int i = 0; i < 6; i++) {
            x.swap(255 >> i);
        }
        for (int p = 11; p >= 0; p--) {
            x.join(p);
        }
        for (int i = 0; i < 15; i++) {
            x.feed(0x62617365203132L, 7);
        }
        x.feed(0, 8);
        x.feed(0, 7);
        return x;
    }
}
