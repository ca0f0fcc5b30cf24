import java.util.ArrayList;
import java.util.List;
import java.util.regex.Matcher;
import java.util.regex.Pattern;

/**
 * The document once more, in the slowest and plainest way: persons that wait are objects, the law is
 * read by a pattern, shifts are filled and fleets are spread by looking at all ways. ModelTest compares.
 */
final class SlowHire {
    private static final class Plate {
        int kind, owner, lease, cost, day = -1, night = -1, hours, took, ward = -1;
        int driver(int shift) { return shift == 0 ? day : night; }
        void setDriver(int shift, int d) { if (shift == 0) day = d; else night = d; }
        Plate copy() {
            Plate c = new Plate();
            c.kind = kind; c.owner = owner; c.lease = lease; c.cost = cost; c.day = day; c.night = night;
            c.hours = hours; c.took = took; c.ward = ward;
            return c;
        }
        boolean may(int w) { return kind != 3 || w == 2 || w == 3 || w == 4; }
    }

    private static final class Driver {
        int wish, hours, earned;
        Driver copy() { Driver c = new Driver(); c.wish = wish; c.hours = hours; c.earned = earned; return c; }
    }

    private record Person(int ward, int cameAt) { }
    private record Ride(int hour, int plate, int from, int to, int fare) { }
    private record Loan(int plate, int rank, int sum) { }

    private List<Plate> plates = new ArrayList<>();
    private List<Driver> drivers = new ArrayList<>();
    private List<Person> waiting = new ArrayList<>();
    private int[] ridesFrom = new int[5];
    private List<Ride> rides = new ArrayList<>();
    private int rideCount, lost, idle, hour;
    private final int[][] asks = new int[24][5];
    private final List<Loan> loans = new ArrayList<>();
    private final List<Integer> fleets = new ArrayList<>();
    private final List<Integer> line = new ArrayList<>();
    private String tape = "";
    private String law = "";

    private static boolean in(int x, int a, int b) { return a <= x && x <= b; }
    private boolean isPlate(int p) { return in(p, 0, plates.size() - 1); }

    int plate(int kind, int owner, int lease, int cost) {
        if (!in(kind, 0, 3) || !in(owner, 0, 5) || !in(lease, 0, 9999) || !in(cost, 0, 9999)) return -2;
        if (plates.size() >= 12) return -4;
        Plate p = new Plate();
        p.kind = kind; p.owner = owner; p.lease = lease; p.cost = cost;
        plates.add(p);
        return plates.size() - 1;
    }

    int driver(int wish) {
        if (!in(wish, 0, 2)) return -2;
        if (drivers.size() >= 16) return -4;
        Driver d = new Driver();
        d.wish = wish;
        drivers.add(d);
        return drivers.size() - 1;
    }

    int drive(int p, int shift, int d) {
        if (!isPlate(p) || !in(shift, 0, 1) || !in(d, -1, drivers.size() - 1)) return -5;
        int had = plates.get(p).driver(shift);
        if (d >= 0) {
            for (Plate q : plates) {
                if (q.day == d) q.day = -1;
                if (q.night == d) q.night = -1;
            }
        }
        plates.get(p).setDriver(shift, d);
        return had;
    }

    int about(int p, int what) {
        if (!isPlate(p) || !in(what, 0, 7)) return -1;
        Plate q = plates.get(p);
        int due = q.kind == 1 && q.hours < 5 ? 5 - q.hours : 0;
        return new int[] {q.kind, q.owner, q.day, q.night, q.hours, q.took, q.ward, due}[what];
    }

    int driven(int d, int what) {
        if (!in(d, 0, drivers.size() - 1) || !in(what, 0, 2)) return -1;
        Driver e = drivers.get(d);
        return new int[] {e.wish, e.hours, e.earned}[what];
    }

    int fill() {
        List<Integer> places = new ArrayList<>();
        for (int i = 0; i < 2 * plates.size() && places.size() < 10; i++) {
            if (plates.get(i / 2).driver(i % 2) < 0) places.add(i);
        }
        List<Integer> free = new ArrayList<>();
        for (int d = 0; d < drivers.size() && free.size() < 10; d++) {
            boolean has = false;
            for (Plate q : plates) has |= q.day == d || q.night == d;
            if (!has) free.add(d);
        }
        int n = free.size();
        // best[i][used]: the most worths of shifts from i on, if these drivers are used already
        int[][] best = new int[places.size() + 1][1 << n];
        for (int i = places.size() - 1; i >= 0; i--) {
            for (int used = 0; used < 1 << n; used++) {
                int most = best[i + 1][used];
                for (int f = 0; f < n; f++) {
                    if ((used >> f & 1) == 0) {
                        most = Math.max(most, worth(places.get(i), free.get(f)) + best[i + 1][used | 1 << f]);
                    }
                }
                best[i][used] = most;
            }
        }
        int used = 0;
        for (int i = 0; i < places.size(); i++) {
            for (int f = 0; f < n; f++) {
                boolean open = (used >> f & 1) == 0;
                if (open && worth(places.get(i), free.get(f)) + best[i + 1][used | 1 << f] == best[i][used]) {
                    plates.get(places.get(i) / 2).setDriver(places.get(i) % 2, free.get(f));
                    used |= 1 << f;
                    break;
                }
            }
        }
        return best[0][0];
    }

    private int worth(int place, int d) {
        int wish = drivers.get(d).wish;
        return wish == 2 || wish == place % 2 ? 2 : 1;
    }

    int feed(long w, int n) {
        if (!in(n, 1, 8)) return -2;
        if (tape.length() + n > 120) return -4;
        String more = "";
        for (int i = 0; i < n; i++) more = (char) (w >> 8 * i & 255) + more;
        tape += more;
        return tape.length();
    }

    private static final String CLAUSE =
        "(?:(?:base|step|night|wait|cap) [0-9]{1,4}|ward [0-4] [0-9]{1,4})";
    private static final Pattern LAW = Pattern.compile(CLAUSE + "(?:;" + CLAUSE + "){0,5}");

    int law() {
        String text = tape;
        tape = "";
        if (LAW.matcher(text).matches()) {
            law = text;
            return text.split(";").length;
        }
        for (int end = 1; end <= text.length(); end++) {
            Matcher m = LAW.matcher(text.substring(0, end));
            if (!m.matches() && !m.hitEnd()) return -10 - (end - 1);
        }
        return -10 - text.length();
    }

    int fare(int from, int to, int h, int wait) {
        if (!in(from, 0, 4) || !in(to, 0, 4)) return -1;
        if (!in(h, 0, 23) || !in(wait, 0, 9)) return -2;
        int sum = 0;
        int cap = 99999;
        for (String clause : law.split(";")) {
            String[] words = clause.split(" ");
            int n = words.length < 2 ? 0 : Integer.parseInt(words[words.length - 1]);
            if (words[0].equals("base")) sum += n;
            if (words[0].equals("step")) for (int w = Math.min(from, to); w < Math.max(from, to); w++) sum += n;
            if (words[0].equals("night") && !in(h, 6, 19)) sum += n;
            if (words[0].equals("ward") && List.of("" + from, "" + to).contains(words[1])) sum += n;
            if (words[0].equals("wait")) sum += n * wait;
            if (words[0].equals("cap") && n < cap) cap = n;
        }
        return sum > cap ? cap : sum;
    }

    int ask(int h, int ward, int n) {
        if (!in(h, 0, 23) || !in(ward, 0, 4)) return -1;
        if (!in(n, 0, 20)) return -2;
        int was = asks[h][ward];
        asks[h][ward] = n;
        return was;
    }

    int stand(int p, int ward) {
        if (!isPlate(p) || !in(ward, -1, 4)) return -5;
        Plate q = plates.get(p);
        if (ward >= 0 && !q.may(ward)) return -3;
        int was = q.ward;
        q.ward = ward;
        return was;
    }

    int step(int n) {
        if (!in(n, 1, 24)) return -2;
        if (hour + n > 400) return -4;
        int before = rideCount;
        for (int i = 0; i < n; i++) anHour();
        return rideCount - before;
    }

    private int waitingIn(int ward) {
        int n = 0;
        for (Person w : waiting) if (w.ward == ward) n++;
        return n;
    }

    private void anHour() {
        int h = hour % 24;
        int shift = h >= 4 && h < 16 ? 0 : 1;
        for (int w = 0; w < 5; w++) for (int i = 0; i < asks[h][w]; i++) waiting.add(new Person(w, hour));
        List<Plate> empty = new ArrayList<>();
        for (int p = 0; p < plates.size(); p++) {
            Plate q = plates.get(p);
            if (q.ward < 0 || q.driver(shift) < 0) continue;
            Driver d = drivers.get(q.driver(shift));
            q.hours++;
            d.hours++;
            Person first = null;
            for (Person w : waiting) {
                if (w.ward == q.ward && (first == null || w.cameAt < first.cameAt)) first = w;
            }
            if (first == null) {
                empty.add(q);
                continue;
            }
            waiting.remove(first);
            int to = (q.ward + 1 + ridesFrom[q.ward]++) % 5;
            int fare = fare(q.ward, to, h, hour - first.cameAt);
            q.took += fare;
            d.earned += fare;
            rides.add(new Ride(hour, p, q.ward, to, fare));
            rideCount++;
            q.ward = q.may(to) ? to : 2;
        }
        idle += empty.size();
        for (Plate q : empty) {
            int goal = q.ward;
            for (int w = 4; w >= 0; w--) {
                boolean more = waitingIn(w) > waitingIn(q.ward);
                if (q.may(w) && more && waitingIn(w) >= waitingIn(goal)) goal = w;
            }
            q.ward = goal;
        }
        int now = hour;
        int before = waiting.size();
        waiting.removeIf(w -> now - w.cameAt == 2);
        lost += before - waiting.size();
        hour++;
    }

    int tried(int less, int n, int what) {
        if (!in(what, 0, 3)) return -1;
        if (!in(less, 0, plates.size()) || !in(n, 1, 40)) return -2;
        SlowHire t = new SlowHire();
        for (Plate q : plates) t.plates.add(q.copy());
        for (Driver d : drivers) t.drivers.add(d.copy());
        t.waiting = new ArrayList<>(waiting);
        t.ridesFrom = ridesFrom.clone();
        t.hour = hour;
        t.law = law;
        for (int h = 0; h < 24; h++) t.asks[h] = asks[h].clone();
        for (int i = 1; i <= less; i++) t.plates.get(plates.size() - i).ward = -1;
        for (int i = 0; i < n; i++) t.anHour();
        int taken = 0;
        for (Ride r : t.rides) taken += r.fare;
        return new int[] {t.rideCount, t.lost, t.idle, taken}[what];
    }

    int found(int fromHour, int toHour, int from, int to, int i) {
        List<Integer> all = new ArrayList<>();
        for (int k = 0; k < Math.min(300, rides.size()); k++) {
            Ride r = rides.get(k);
            boolean fits = (from == -1 || r.from == from) && (to == -1 || r.to == to);
            if (fits && r.hour >= fromHour && r.hour <= toHour) all.add(k);
        }
        return in(i, 0, all.size() - 1) ? all.get(i) : -1;
    }

    int rode(int k, int what) {
        if (!in(k, 0, Math.min(300, rides.size()) - 1) || !in(what, 0, 4)) return -1;
        Ride r = rides.get(k);
        return new int[] {r.hour, r.plate, r.from, r.to, r.fare}[what];
    }

    int value(int p, int years, int rate) {
        if (!isPlate(p)) return -1;
        if (!in(years, 1, 40) || !in(rate, 0, 500)) return -2;
        Plate q = plates.get(p);
        long gain = (q.kind == 2 ? q.lease * 9 / 10 : q.lease) - q.cost;
        long v = 0;
        for (int y = years; y > 0; y--) v = (v + gain) * 1000 / (1000 + rate);
        return (int) Math.max(0, v);
    }

    int rent(int p, int lease, int cost) {
        if (!isPlate(p)) return -1;
        if (!in(lease, 0, 9999) || !in(cost, 0, 9999)) return -2;
        int was = plates.get(p).lease;
        plates.get(p).lease = lease;
        plates.get(p).cost = cost;
        return was;
    }

    int loan(int p, int rank, int sum) {
        if (!isPlate(p)) return -1;
        if (!in(rank, 0, 9) || !in(sum, 1, 99999)) return -2;
        if (loans.size() >= 30) return -4;
        loans.add(new Loan(p, rank, sum));
        return loans.size() - 1;
    }

    int owes(int p) {
        if (!isPlate(p)) return -1;
        return loans.stream().filter(l -> l.plate == p).mapToInt(Loan::sum).sum();
    }

    int fails(int years, int rate) {
        if (!in(years, 1, 40) || !in(rate, 0, 500)) return -2;
        int bits = 0;
        for (int p = 0; p < plates.size(); p++) if (owes(p) > value(p, years, rate)) bits += 1 << p;
        return bits;
    }

    /** The parts of a plate's loans, by numbers of loans, and behind them what is left over. */
    private long[] parted(int p, long sum) {
        long[] parts = new long[loans.size() + 1];
        for (int rank = 0; rank < 10; rank++) {
            long all = 0;
            for (Loan l : loans) if (l.plate == p && l.rank == rank) all += l.sum;
            if (all == 0) continue;
            long have = Math.min(sum, all);
            long given = 0;
            for (int i = 0; i < loans.size(); i++) {
                Loan l = loans.get(i);
                if (l.plate == p && l.rank == rank) {
                    parts[i] = have * l.sum / all;
                    given += parts[i];
                }
            }
            for (int round = 0; round < 2; round++) {
                for (int i = 0; i < loans.size(); i++) {
                    Loan l = loans.get(i);
                    if (l.plate == p && l.rank == rank && given < have && parts[i] < l.sum) {
                        parts[i]++;
                        given++;
                    }
                }
            }
            sum -= have;
        }
        parts[loans.size()] = sum;
        return parts;
    }

    int part(int loan, int sum) {
        if (!in(loan, 0, loans.size() - 1)) return -1;
        if (!in(sum, 0, 999999)) return -2;
        return (int) parted(loans.get(loan).plate, sum)[loan];
    }

    int over(int p, int sum) {
        if (!isPlate(p)) return -1;
        if (!in(sum, 0, 999999)) return -2;
        return (int) parted(p, sum)[loans.size()];
    }

    int rescue(int p, int hundredths, int years, int rate) {
        if (!isPlate(p)) return -1;
        if (!in(hundredths, 0, 100) || !in(years, 1, 40) || !in(rate, 0, 500)) return -2;
        int worth = value(p, years, rate);
        int owed = owes(p);
        if (owed <= worth) return -3;
        long[] parts = parted(p, (long) worth * hundredths / 100);
        for (int i = 0; i < loans.size(); i++) {
            Loan l = loans.get(i);
            if (l.plate == p) loans.set(i, new Loan(p, l.rank, (int) parts[i]));
        }
        return owed - owes(p);
    }

    int swap(int set) {
        if (!in(set, 1, 255)) return -2;
        if (fleets.size() >= 6) return -4;
        fleets.add(set);
        return fleets.size() - 1;
    }

    int unswap() {
        int n = fleets.size();
        fleets.clear();
        return n;
    }

    int spread(int what) {
        int n = fleets.size();
        if (!in(what, 0, n + 1)) return -1;
        int ways = 1;
        for (int i = 0; i < n; i++) ways *= 8;
        int[] best = null;
        // counted up, the first fleet's hour is the highest digit: the first of several comes first
        for (int way = 0; way < ways; way++) {
            int[] answer = new int[n + 2];
            int[] load = new int[8];
            boolean able = true;
            int rest = way;
            for (int f = n - 1; f >= 0; f--) {
                int i = rest % 8;
                rest /= 8;
                able &= (fleets.get(f) >> i & 1) == 1;
                answer[0] = Math.max(answer[0], ++load[i]);
                for (int ward = 0; ward < 5; ward++) answer[1] += asks[12 + i][ward];
                answer[2 + f] = 12 + i;
            }
            boolean better = best == null || answer[0] < best[0] || answer[0] == best[0] && answer[1] < best[1];
            if (able && better) best = answer;
        }
        return best[what];
    }

    int join(int p) {
        if (!isPlate(p)) return -1;
        if (line.contains(p)) return -3;
        line.add(p);
        return line.size();
    }

    int call(int ramp) {
        if (!in(ramp, 0, 1)) return -2;
        for (Integer p : line) {
            if (ramp == 0 || plates.get(p).kind == 2) {
                line.remove(p);
                return p;
            }
        }
        return -1;
    }

    int leave(int p) {
        if (!isPlate(p)) return -1;
        int place = line.indexOf(p);
        if (place < 0) return -3;
        line.remove(place);
        return place;
    }

    int count(int what) {
        if (!in(what, 0, 10)) return -1;
        return new int[] {plates.size(), drivers.size(), hour, rideCount, lost, idle, loans.size(), line.size(),
            fleets.size(), tape.length(), Math.min(300, rides.size())}[what];
    }
}
