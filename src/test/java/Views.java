import java.util.ArrayList;
import java.util.List;

/**
 * Everything that can be seen of an object. Each view asks fewer than 300 times, as an object is good
 * for 512 calls; some use up what they look at, so each view wants an object of its own.
 */
final class Views {
    static final int COUNT = 7;

    private final PlateHire x;
    private final List<Integer> seen = new ArrayList<>();

    private Views(PlateHire x) {
        this.x = x;
    }

    static int[] of(PlateHire x, int view) {
        Views v = new Views(x);
        switch (view) {
            case 0: v.platesAndDrivers(); break;
            case 1: v.money(); break;
            case 2: v.meterAndAsks(); break;
            case 3: v.rides(); break;
            case 4: v.fleetsAndLine(); break;
            case 5: v.hoursToCome(); break;
            default: v.shiftsToFill(); break;
        }
        return v.seen.stream().mapToInt(Integer::intValue).toArray();
    }

    private void platesAndDrivers() {
        for (int what = -1; what <= 11; what++) seen.add(x.count(what));
        for (int p = 0; p <= 12; p++) {
            for (int what = 0; what < 8; what++) seen.add(x.about(p, what));
            seen.add(x.owes(p));
        }
        for (int d = 0; d <= 16; d++) {
            for (int what = 0; what < 3; what++) seen.add(x.driven(d, what));
        }
    }

    private void money() {
        for (int p = 0; p <= 12; p++) {
            seen.add(x.value(p, 1, 0));
            seen.add(x.value(p, 40, 37));
            seen.add(x.over(p, 999999));
        }
        seen.add(x.fails(1, 500));
        seen.add(x.fails(40, 0));
        for (int loan = 0; loan <= 30; loan++) {
            for (int sum : new int[] {1, 1000, 50000, 999999}) seen.add(x.part(loan, sum));
        }
        for (int p = 0; p <= 12; p++) seen.add(x.rent(p, 0, 0));
    }

    private void meterAndAsks() {
        for (int i = 0; i < 25; i++) {
            seen.add(x.fare(i / 5, i % 5, 0, 0));
            seen.add(x.fare(i / 5, i % 5, 12, 9));
        }
        for (int i = 0; i < 120; i++) seen.add(x.ask(i / 5, i % 5, 0));
        seen.add(x.count(9));
        seen.add(x.law());
        for (int i = 0; i < 25; i++) seen.add(x.fare(i / 5, i % 5, 23, 1));
    }

    private void rides() {
        for (int k = 0; k <= 300; k = k == 39 ? 288 : k + 1) {
            for (int what = 0; what < 5; what++) seen.add(x.rode(k, what));
        }
        for (int ward = 0; ward < 5; ward++) {
            seen.add(x.found(0, 400, ward, -1, 3));
            seen.add(x.found(5, 300, -1, ward, 1));
        }
    }

    private void fleetsAndLine() {
        for (int what = 0; what <= 8; what++) seen.add(x.spread(what));
        for (int i = 0; i < 3; i++) seen.add(x.call(1));
        for (int i = 0; i < 13; i++) seen.add(x.call(0));
        seen.add(x.unswap());
    }

    private void hoursToCome() {
        for (int less = 0; less <= 13; less++) {
            for (int what = 0; what < 4; what++) seen.add(x.tried(less, 40, what));
        }
        for (int i = 0; i < 3; i++) seen.add(x.step(11));
        for (int what = 0; what <= 10; what++) seen.add(x.count(what));
        for (int p = 0; p < 12; p++) {
            for (int what = 4; what < 8; what++) seen.add(x.about(p, what));
        }
        for (int d = 0; d < 16; d++) {
            for (int what = 1; what < 3; what++) seen.add(x.driven(d, what));
        }
    }

    private void shiftsToFill() {
        for (int i = 0; i < 3; i++) seen.add(x.fill());
        for (int p = 0; p < 12; p++) {
            seen.add(x.about(p, 2));
            seen.add(x.about(p, 3));
        }
    }
}
