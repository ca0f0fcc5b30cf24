import java.util.Random;

/** All promises: long runs of calls, each answer compared with the one of the slow model. */
public final class ModelTest {
    private static final Due due = new Due("model");

    private final Random random;
    /** How many calls of the 512 that an object is good for are left. */
    private int left = 512;
    private final PlateHire x = new PlateHire();
    private final SlowHire y = new SlowHire();
    private final String name;

    private ModelTest(long seed) {
        random = new Random(seed);
        name = "run " + seed + ": ";
    }

    public static void main(String[] args) {
        for (long seed = 0; seed < 800; seed++) {
            ModelTest run = new ModelTest(seed);
            run.found();
            // one of these may feed a law byte by byte: some hundred calls
            int looks = 110 + run.random.nextInt(150);
            while (run.left > looks) {
                run.anyCall();
            }
            run.lookAround();
        }
        due.end();
    }

    /** A number of a .. b, and at times one beyond them. */
    private int some(int a, int b) {
        int r = random.nextInt(100);
        if (r == 0) return a - 1;
        if (r == 1) return b + 1;
        if (r == 2) return random.nextBoolean() ? Integer.MIN_VALUE : Integer.MAX_VALUE;
        if (r < 10) return random.nextBoolean() ? a : b;
        return a + random.nextInt(Math.max(1, b - a + 1));
    }

    private void is(String call, int got, int want) {
        left--;
        due.is(name + call, got, want);
    }

    /** Most runs start with plates and drivers, so that hours have rides. */
    private void found() {
        int plates = random.nextInt(13);
        int drivers = random.nextInt(17);
        for (int i = 0; i < plates; i++) plate();
        for (int i = 0; i < drivers; i++) driver();
        if (random.nextInt(4) > 0) {
            is("fill", x.fill(), y.fill());
            for (int p = 0; p < plates; p++) stand(p, 2 + random.nextInt(3));
            text("base 25;step 13;night 7;ward 2 11;wait 3;cap 70");
            is("law", x.law(), y.law());
        }
        int asks = random.nextInt(120);
        for (int i = 0; i < asks; i++) ask();
    }

    private void plate() {
        int kind = some(0, 3), owner = some(0, 5), lease = some(0, 9999), cost = some(0, lease < 0 ? 9 : Math.min(lease, 9999));
        is("plate " + kind + " " + owner + " " + lease + " " + cost,
            x.plate(kind, owner, lease, cost), y.plate(kind, owner, lease, cost));
    }

    private void driver() {
        int wish = some(0, 2);
        is("driver " + wish, x.driver(wish), y.driver(wish));
    }

    private void ask() {
        int h = some(0, 23), ward = some(0, 4), n = random.nextInt(3) == 0 ? some(0, 20) : random.nextInt(4);
        is("ask " + h + " " + ward + " " + n, x.ask(h, ward, n), y.ask(h, ward, n));
    }

    private void stand(int p, int ward) {
        is("stand " + p + " " + ward, x.stand(p, ward), y.stand(p, ward));
    }

    private void text(String text) {
        for (int at = 0; at < text.length();) {
            int n = Math.min(1 + random.nextInt(8), text.length() - at);
            long w = random.nextLong();
            for (int i = 0; i < n; i++) {
                w = w << 8 | text.charAt(at + i);
            }
            is("feed " + w + " " + n, x.feed(w, n), y.feed(w, n));
            at += n;
        }
    }

    private String someLaw() {
        String[] words = {"base", "step", "night", "ward", "wait", "cap"};
        StringBuilder text = new StringBuilder();
        int clauses = 1 + random.nextInt(random.nextInt(5) == 0 ? 8 : 6);
        for (int i = 0; i < clauses; i++) {
            String word = words[random.nextInt(6)];
            text.append(i > 0 ? ";" : "").append(word).append(' ');
            if (word.equals("ward")) text.append(random.nextInt(5)).append(' ');
            text.append(random.nextInt(new int[] {10, 100, 1000, 10000}[random.nextInt(4)]));
        }
        if (random.nextInt(2) == 0) {
            String signs = "abcdeghinprstw 0123456789;" + (char) 0 + (char) 255;
            char sign = signs.charAt(random.nextInt(signs.length()));
            int at = random.nextInt(text.length());
            switch (random.nextInt(4)) {
                case 0: text.setCharAt(at, sign); break;
                case 1: text.insert(at, sign); break;
                case 2: text.deleteCharAt(at); break;
                default: text.setLength(at); break;
            }
        }
        return text.toString();
    }

    private void anyCall() {
        int a, b, c, d, e;
        switch (random.nextInt(36)) {
            case 0: if (random.nextInt(8) == 0) plate(); break;
            case 1: if (random.nextInt(8) == 0) driver(); break;
            case 2: case 3:
                a = some(0, y.count(0) - 1); b = some(0, 1); c = some(-1, y.count(1) - 1);
                is("drive " + a + " " + b + " " + c, x.drive(a, b, c), y.drive(a, b, c));
                break;
            case 4: case 5:
                a = some(0, y.count(0) - 1); b = some(0, 7);
                is("about " + a + " " + b, x.about(a, b), y.about(a, b));
                break;
            case 6:
                a = some(0, y.count(1) - 1); b = some(0, 2);
                is("driven " + a + " " + b, x.driven(a, b), y.driven(a, b));
                break;
            case 7: if (random.nextInt(3) == 0) is("fill", x.fill(), y.fill()); break;
            case 8:
                a = some(1, 8); long w = random.nextLong();
                if (random.nextInt(4) == 0) is("feed " + w + " " + a, x.feed(w, a), y.feed(w, a));
                break;
            case 9: text(someLaw()); break;
            case 10: if (random.nextInt(2) == 0) text(someLaw()); is("law", x.law(), y.law()); break;
            case 11: case 12:
                a = some(0, 4); b = some(0, 4); c = some(0, 23); d = some(0, 9);
                is("fare " + a + " " + b + " " + c + " " + d, x.fare(a, b, c, d), y.fare(a, b, c, d));
                break;
            case 13: case 14: ask(); break;
            case 15: case 16: stand(some(0, y.count(0) - 1), some(-1, 4)); break;
            case 17: case 18:
                a = random.nextInt(4) == 0 ? some(1, 24) : some(1, 3);
                is("step " + a, x.step(a), y.step(a));
                break;
            case 19: case 20:
                a = some(0, y.count(0)); b = some(1, 40); c = some(0, 3);
                is("tried " + a + " " + b + " " + c, x.tried(a, b, c), y.tried(a, b, c));
                break;
            case 21: case 22:
                a = some(0, y.count(2)); b = some(0, 400); c = some(-1, 4); d = random.nextBoolean() ? -1 : some(-1, 4);
                e = some(0, random.nextInt(2) == 0 ? 4 : 40);
                is("found " + a + " " + b + " " + c + " " + d + " " + e, x.found(a, b, c, d, e), y.found(a, b, c, d, e));
                break;
            case 23:
                a = some(0, y.count(10) - 1); b = some(0, 4);
                is("rode " + a + " " + b, x.rode(a, b), y.rode(a, b));
                break;
            case 24:
                a = some(0, y.count(0) - 1); b = some(1, 40); c = some(0, 500);
                is("value " + a + " " + b + " " + c, x.value(a, b, c), y.value(a, b, c));
                break;
            case 25:
                a = some(0, y.count(0) - 1); b = some(0, 9999); c = some(0, 9999);
                is("rent " + a + " " + b + " " + c, x.rent(a, b, c), y.rent(a, b, c));
                break;
            case 26:
                a = some(0, Math.min(3, y.count(0) - 1)); b = random.nextBoolean() ? some(0, 9) : some(0, 1);
                c = random.nextBoolean() ? some(1, 99999) : some(1, 50);
                is("loan " + a + " " + b + " " + c, x.loan(a, b, c), y.loan(a, b, c));
                break;
            case 27:
                a = some(0, y.count(0) - 1);
                is("owes " + a, x.owes(a), y.owes(a));
                break;
            case 28:
                a = some(1, 40); b = some(0, 500);
                is("fails " + a + " " + b, x.fails(a, b), y.fails(a, b));
                break;
            case 29:
                a = some(0, y.count(6) - 1); b = random.nextBoolean() ? some(0, 999999) : some(0, 500);
                is("part " + a + " " + b, x.part(a, b), y.part(a, b));
                a = some(0, y.count(0) - 1);
                is("over " + a + " " + b, x.over(a, b), y.over(a, b));
                break;
            case 30:
                a = some(0, y.count(0) - 1); b = some(0, 100); c = some(1, 40); d = some(0, 500);
                is("rescue " + a + " " + b + " " + c + " " + d, x.rescue(a, b, c, d), y.rescue(a, b, c, d));
                break;
            case 31:
                a = random.nextBoolean() ? some(1, 255) : 1 << random.nextInt(8) | 1 << random.nextInt(4);
                is("swap " + a, x.swap(a), y.swap(a));
                break;
            case 32:
                if (random.nextInt(3) == 0) is("unswap", x.unswap(), y.unswap());
                break;
            case 33:
                a = some(0, y.count(8) + 1);
                if (random.nextInt(4) == 0) is("spread " + a, x.spread(a), y.spread(a));
                break;
            case 34:
                a = some(0, y.count(0) - 1); b = some(0, 1);
                is("join " + a, x.join(a), y.join(a));
                if (random.nextInt(3) == 0) is("call " + b, x.call(b), y.call(b));
                if (random.nextInt(3) == 0) is("leave " + b, x.leave(b), y.leave(b));
                break;
            default:
                a = some(0, 10);
                is("count " + a, x.count(a), y.count(a));
                break;
        }
    }

    /** All counts and spreads, and then anything at all until the last call. */
    private void lookAround() {
        for (int what = 0; what <= 10; what++) is("at the end count " + what, x.count(what), y.count(what));
        for (int what = 0; what < y.count(8) + 2; what++) is("at the end spread " + what, x.spread(what), y.spread(what));
        while (left > 0) {
            int p = some(0, y.count(0) - 1), d = some(0, y.count(1) - 1), k = some(0, y.count(10) - 1);
            int what = random.nextInt(8);
            switch (random.nextInt(4)) {
                case 0: is("at the end about " + p + " " + what, x.about(p, what), y.about(p, what)); break;
                case 1: is("at the end driven " + d + " " + what, x.driven(d, what), y.driven(d, what)); break;
                case 2: is("at the end rode " + k + " " + what, x.rode(k, what), y.rode(k, what)); break;
                default: is("at the end owes " + p, x.owes(p), y.owes(p)); break;
            }
        }
    }
}
