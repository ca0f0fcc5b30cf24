/**
 * Plates for hire: plates, drivers, a city stepped hour by hour, the meter's law, loans on plates,
 * changeover hours and the line at the airport. What each call answers stands in the document.
 */
public final class PlateHire {
    public static final int NONE = -1, BAD = -2, STATE = -3, FULL = -4;

    /** What drive and stand answer for a missing thing, as NONE is an ordinary answer of theirs. */
    private static final int NO_SUCH = -5;

    private static final int MOST_PLATES = 12;
    private static final int MOST_DRIVERS = 16;
    private static final int MOST_HOURS = 400;
    private static final int MOST_MONEY = 9999;
    private static final int HOURS_A_DAY = 24;
    private static final int WARDS = 5;

    private static final int OWNED = 1;
    private static final int RAMP = 2;
    private static final int OUTER = 3;

    private final Plates plates;
    private final Roster roster;
    private final Tape tape;
    private final Meter meter;
    private final Asks asks;
    private final Rides rides;
    private final City city;
    /** Where hours are tried: made once, so that a trial makes no object. */
    private final City trial;
    private final Loans loans;
    private final Fleets fleets;
    private final Line line;

    public PlateHire() {
        plates = new Plates();
        roster = new Roster();
        tape = new Tape();
        meter = new Meter();
        asks = new Asks();
        rides = new Rides();
        city = new City(plates, roster, meter, asks, rides);
        trial = new City(plates, roster, meter, asks, null);
        loans = new Loans();
        fleets = new Fleets(asks);
        line = new Line();
    }

    // ---- plates and drivers

    public int plate(int kind, int owner, int lease, int cost) {
        if (!within(kind, 0, 3) || !within(owner, 0, 5) || !isRent(lease, cost)) {
            return BAD;
        }
        if (plates.size == MOST_PLATES) {
            return FULL;
        }
        return plates.add(kind, owner, lease, cost);
    }

    public int driver(int wishes) {
        if (!within(wishes, 0, 2)) {
            return BAD;
        }
        if (roster.drivers == MOST_DRIVERS) {
            return FULL;
        }
        return roster.addDriver(wishes);
    }

    public int drive(int p, int shift, int d) {
        if (!plates.has(p) || !within(shift, 0, 1) || (d != NONE && !roster.hasDriver(d))) {
            return NO_SUCH;
        }
        return roster.assign(p * 2 + shift, d);
    }

    public int about(int p, int what) {
        if (!plates.has(p)) {
            return NONE;
        }
        switch (what) {
            case 0: return plates.kinds[p];
            case 1: return plates.owners[p];
            case 2: return roster.driverOf[p * 2];
            case 3: return roster.driverOf[p * 2 + 1];
            case 4: return city.hours[p];
            case 5: return city.took[p];
            case 6: return city.where[p];
            case 7: return plates.hoursDue(p, city.hours[p]);
            default: return NONE;
        }
    }

    public int driven(int d, int what) {
        if (!roster.hasDriver(d)) {
            return NONE;
        }
        switch (what) {
            case 0: return roster.wishes[d];
            case 1: return city.driverHours[d];
            case 2: return city.earned[d];
            default: return NONE;
        }
    }

    public int fill() {
        return roster.fillFree(plates.size);
    }

    // ---- the meter

    public int feed(long w, int n) {
        if (!within(n, 1, 8)) {
            return BAD;
        }
        if (tape.size + n > Tape.MOST_BYTES) {
            return FULL;
        }
        return tape.append(w, n);
    }

    public int law() {
        int fault = tape.read();
        if (fault != NONE) {
            return -10 - fault;
        }
        meter.copy(tape.draft);
        return meter.size;
    }

    public int fare(int from, int to, int hour, int wait) {
        if (!isWard(from) || !isWard(to)) {
            return NONE;
        }
        if (!within(hour, 0, HOURS_A_DAY - 1) || !within(wait, 0, 9)) {
            return BAD;
        }
        return meter.price(from, to, hour, wait);
    }

    // ---- the city

    public int ask(int h, int ward, int n) {
        if (!within(h, 0, HOURS_A_DAY - 1) || !isWard(ward)) {
            return NONE;
        }
        if (!within(n, 0, 20)) {
            return BAD;
        }
        return asks.replace(h, ward, n);
    }

    public int stand(int p, int ward) {
        if (!plates.has(p) || (ward != NONE && !isWard(ward))) {
            return NO_SUCH;
        }
        if (ward != NONE && !plates.mayStand(p, ward)) {
            return STATE;
        }
        return city.put(p, ward);
    }

    public int step(int n) {
        if (!within(n, 1, 24)) {
            return BAD;
        }
        if (city.hour + n > MOST_HOURS) {
            return FULL;
        }
        int before = city.rideCount;
        city.passHours(n);
        return city.rideCount - before;
    }

    public int tried(int less, int n, int what) {
        if (!within(what, 0, 3)) {
            return NONE;
        }
        if (!within(less, 0, plates.size) || !within(n, 1, 40)) {
            return BAD;
        }
        trial.copy(city);
        trial.clearSums();
        for (int p = plates.size - less; p < plates.size; p++) {
            trial.put(p, NONE);
        }
        trial.passHours(n);
        switch (what) {
            case 0: return trial.rideCount;
            case 1: return trial.lostCount;
            case 2: return trial.idleHours;
            default: return trial.taken;
        }
    }

    public int found(int fromHour, int toHour, int from, int to, int i) {
        return rides.search(fromHour, toHour, from, to, i);
    }

    public int rode(int k, int what) {
        if (!rides.has(k) || !within(what, 0, Rides.PARTS - 1)) {
            return NONE;
        }
        return rides.detail(k, what);
    }

    // ---- worth and loans

    public int value(int p, int years, int rate) {
        if (!plates.has(p)) {
            return NONE;
        }
        if (!isTerm(years, rate)) {
            return BAD;
        }
        return plates.worth(p, years, rate);
    }

    public int rent(int p, int lease, int cost) {
        if (!plates.has(p)) {
            return NONE;
        }
        if (!isRent(lease, cost)) {
            return BAD;
        }
        return plates.replaceRent(p, lease, cost);
    }

    public int loan(int p, int rank, int sum) {
        if (!plates.has(p)) {
            return NONE;
        }
        if (!within(rank, 0, Loans.LAST_RANK) || !within(sum, 1, 99999)) {
            return BAD;
        }
        if (loans.size == Loans.MOST_LOANS) {
            return FULL;
        }
        return loans.add(p, rank, sum);
    }

    public int owes(int p) {
        if (!plates.has(p)) {
            return NONE;
        }
        return loans.debt(p);
    }

    public int fails(int years, int rate) {
        if (!isTerm(years, rate)) {
            return BAD;
        }
        int bits = 0;
        for (int p = 0; p < plates.size; p++) {
            if (isFailing(p, years, rate)) {
                bits |= 1 << p;
            }
        }
        return bits;
    }

    public int part(int loan, int sum) {
        if (!loans.has(loan)) {
            return NONE;
        }
        if (!isPartable(sum)) {
            return BAD;
        }
        loans.divide(loans.plateOf[loan], sum);
        return loans.parts[loan];
    }

    public int over(int p, int sum) {
        if (!plates.has(p)) {
            return NONE;
        }
        if (!isPartable(sum)) {
            return BAD;
        }
        return Math.max(0, sum - loans.debt(p));
    }

    public int rescue(int p, int hundredths, int years, int rate) {
        if (!plates.has(p)) {
            return NONE;
        }
        if (!within(hundredths, 0, 100) || !isTerm(years, rate)) {
            return BAD;
        }
        if (!isFailing(p, years, rate)) {
            return STATE;
        }
        int before = loans.debt(p);
        loans.divide(p, plates.worth(p, years, rate) * hundredths / 100);
        loans.settle(p);
        return before - loans.debt(p);
    }

    // ---- changeover, the airport

    public int swap(int set) {
        if (!within(set, 1, 255)) {
            return BAD;
        }
        if (fleets.size == Fleets.MOST_FLEETS) {
            return FULL;
        }
        return fleets.add(set);
    }

    public int unswap() {
        return fleets.clear();
    }

    public int spread(int what) {
        if (!within(what, 0, fleets.size + 1)) {
            return NONE;
        }
        fleets.arrange();
        switch (what) {
            case 0: return fleets.greatest;
            case 1: return fleets.asksTogether();
            default: return fleets.hourOf(what - 2);
        }
    }

    public int join(int p) {
        if (!plates.has(p)) {
            return NONE;
        }
        if (line.placeOf(p) != NONE) {
            return STATE;
        }
        return line.append(p);
    }

    public int call(int ramp) {
        if (!within(ramp, 0, 1)) {
            return BAD;
        }
        for (int place = 0; place < line.size; place++) {
            int p = line.row[place];
            if (ramp == 0 || plates.kinds[p] == RAMP) {
                line.removeAt(place);
                return p;
            }
        }
        return NONE;
    }

    public int leave(int p) {
        if (!plates.has(p)) {
            return NONE;
        }
        int place = line.placeOf(p);
        if (place == NONE) {
            return STATE;
        }
        line.removeAt(place);
        return place;
    }

    public int count(int what) {
        switch (what) {
            case 0: return plates.size;
            case 1: return roster.drivers;
            case 2: return city.hour;
            case 3: return city.rideCount;
            case 4: return city.lostCount;
            case 5: return city.idleHours;
            case 6: return loans.size;
            case 7: return line.size;
            case 8: return fleets.size;
            case 9: return tape.size;
            case 10: return rides.size;
            default: return NONE;
        }
    }

    // ---- what several calls look at

    private static boolean within(int x, int least, int most) {
        return x >= least && x <= most;
    }

    private static boolean isWard(int x) {
        return within(x, 0, WARDS - 1);
    }

    private static boolean isRent(int lease, int cost) {
        return within(lease, 0, MOST_MONEY) && within(cost, 0, MOST_MONEY);
    }

    private static boolean isTerm(int years, int rate) {
        return within(years, 1, 40) && within(rate, 0, 500);
    }

    private static boolean isPartable(int sum) {
        return within(sum, 0, 999999);
    }

    private boolean isFailing(int p, int years, int rate) {
        return loans.debt(p) > plates.worth(p, years, rate);
    }

    /** What is told of each plate. */
    private static final class Plates {
        private static final int HOURS_OF_OWNED = 5;
        private static final int FIRST_OUTER_WARD = 2;

        private final int[] kinds = new int[MOST_PLATES];
        private final int[] owners = new int[MOST_PLATES];
        private final int[] leases = new int[MOST_PLATES];
        private final int[] costs = new int[MOST_PLATES];
        private int size;

        boolean has(int p) {
            return within(p, 0, size - 1);
        }

        int add(int kind, int owner, int lease, int cost) {
            kinds[size] = kind;
            owners[size] = owner;
            leases[size] = lease;
            costs[size] = cost;
            size++;
            return size - 1;
        }

        int replaceRent(int p, int lease, int cost) {
            int before = leases[p];
            leases[p] = lease;
            costs[p] = cost;
            return before;
        }

        boolean mayStand(int p, int ward) {
            return kinds[p] != OUTER || ward >= FIRST_OUTER_WARD;
        }

        /** Where a plate stands whose ride went to a ward. */
        int restingWard(int p, int ward) {
            return mayStand(p, ward) ? ward : FIRST_OUTER_WARD;
        }

        int hoursDue(int p, int driven) {
            return kinds[p] == OWNED ? Math.max(0, HOURS_OF_OWNED - driven) : 0;
        }

        int worth(int p, int years, int rate) {
            int lease = kinds[p] == RAMP ? leases[p] * 9 / 10 : leases[p];
            int gain = lease - costs[p];
            int behind = 0;
            for (int year = 0; year < years; year++) {
                behind = Math.max(0, (behind + gain) * 1000 / (1000 + rate));
            }
            return behind;
        }
    }

    /** Drivers and the shifts that they have; a shift's place is twice its plate, and 1 more at night. */
    private static final class Roster {
        private static final int MOST_FILLED = 10;
        private static final int ANY = 2;

        private final int[] wishes = new int[MOST_DRIVERS];
        private final int[] driverOf = new int[MOST_PLATES * 2];
        private int drivers;

        private final int[] freePlaces = new int[MOST_FILLED];
        private final int[] freeDrivers = new int[MOST_FILLED];
        private final boolean[] given = new boolean[MOST_FILLED];
        private int freePlaceCount;
        private int freeDriverCount;
        /** How many shifts are not yet looked at: day, night. */
        private final int[] shiftsLeft = new int[2];
        /** How many drivers are not yet given: by wish. */
        private final int[] driversLeft = new int[3];

        Roster() {
            for (int place = 0; place < driverOf.length; place++) {
                driverOf[place] = NONE;
            }
        }

        boolean hasDriver(int d) {
            return within(d, 0, drivers - 1);
        }

        int addDriver(int wish) {
            wishes[drivers] = wish;
            drivers++;
            return drivers - 1;
        }

        /** The place of the shift that a driver has, or NONE. */
        private int placeOfDriver(int d) {
            for (int place = 0; place < driverOf.length; place++) {
                if (driverOf[place] == d) {
                    return place;
                }
            }
            return NONE;
        }

        int assign(int place, int d) {
            int before = driverOf[place];
            int other = d == NONE ? NONE : placeOfDriver(d);
            if (other != NONE) {
                driverOf[other] = NONE;
            }
            driverOf[place] = d;
            return before;
        }

        int fillFree(int plateCount) {
            listFreePlaces(plateCount);
            listFreeDrivers();
            int worths = 0;
            for (int i = 0; i < freePlaceCount; i++) {
                worths += fillPlace(freePlaces[i]);
            }
            return worths;
        }

        private void listFreePlaces(int plateCount) {
            freePlaceCount = 0;
            shiftsLeft[0] = 0;
            shiftsLeft[1] = 0;
            for (int place = 0; place < plateCount * 2 && freePlaceCount < MOST_FILLED; place++) {
                if (driverOf[place] == NONE) {
                    freePlaces[freePlaceCount] = place;
                    freePlaceCount++;
                    shiftsLeft[place % 2]++;
                }
            }
        }

        private void listFreeDrivers() {
            freeDriverCount = 0;
            driversLeft[0] = 0;
            driversLeft[1] = 0;
            driversLeft[2] = 0;
            for (int d = 0; d < drivers && freeDriverCount < MOST_FILLED; d++) {
                if (placeOfDriver(d) == NONE) {
                    freeDrivers[freeDriverCount] = d;
                    given[freeDriverCount] = false;
                    freeDriverCount++;
                    driversLeft[wishes[d]]++;
                }
            }
        }

        /** Gives a shift the least driver with whom all worths can still be most; the worth of that. */
        private int fillPlace(int place) {
            int shift = place % 2;
            int most = mostWorths();
            shiftsLeft[shift]--;
            for (int i = 0; i < freeDriverCount; i++) {
                if (given[i]) {
                    continue;
                }
                int wish = wishes[freeDrivers[i]];
                int worth = wish == ANY || wish == shift ? 2 : 1;
                driversLeft[wish]--;
                if (worth + mostWorths() == most) {
                    given[i] = true;
                    driverOf[place] = freeDrivers[i];
                    return worth;
                }
                driversLeft[wish]++;
            }
            return 0;
        }

        /**
         * The most worths of what is left. Any driver may have any shift, so the most pairs as wished
         * can always be made up to the most pairs of all: each pair is worth 1, each wish 1 more.
         */
        private int mostWorths() {
            int shifts = shiftsLeft[0] + shiftsLeft[1];
            int pairs = Math.min(shifts, driversLeft[0] + driversLeft[1] + driversLeft[ANY]);
            int wished = Math.min(shiftsLeft[0], driversLeft[0]) + Math.min(shiftsLeft[1], driversLeft[1]);
            return pairs + wished + Math.min(driversLeft[ANY], shifts - wished);
        }
    }

    /** The law in force: clauses by kind, ward and amount. */
    private static final class Meter {
        private static final int MOST_CLAUSES = 6;
        private static final int UNCAPPED = 99999;

        private static final int BASE = 0;
        private static final int STEP = 1;
        private static final int NIGHT = 2;
        private static final int WARD = 3;
        private static final int WAIT = 4;
        private static final int CAP = 5;

        private final int[] kinds = new int[MOST_CLAUSES];
        private final int[] wards = new int[MOST_CLAUSES];
        private final int[] amounts = new int[MOST_CLAUSES];
        private int size;

        void add(int kind, int ward, int amount) {
            kinds[size] = kind;
            wards[size] = ward;
            amounts[size] = amount;
            size++;
        }

        void copy(Meter other) {
            for (int i = 0; i < other.size; i++) {
                kinds[i] = other.kinds[i];
                wards[i] = other.wards[i];
                amounts[i] = other.amounts[i];
            }
            size = other.size;
        }

        int price(int from, int to, int hourOfDay, int waited) {
            int sum = 0;
            int cap = UNCAPPED;
            for (int i = 0; i < size; i++) {
                if (kinds[i] == CAP) {
                    cap = Math.min(cap, amounts[i]);
                } else {
                    sum += amounts[i] * timesDue(i, from, to, hourOfDay, waited);
                }
            }
            return Math.min(sum, cap);
        }

        /** How many times a clause's amount is due. */
        private int timesDue(int i, int from, int to, int hourOfDay, int waited) {
            switch (kinds[i]) {
                case BASE: return 1;
                case STEP: return Math.abs(from - to);
                case NIGHT: return hourOfDay < 6 || hourOfDay > 19 ? 1 : 0;
                case WARD: return from == wards[i] || to == wards[i] ? 1 : 0;
                case WAIT: return waited;
                default: return 0;
            }
        }
    }

    /** The tape, and the reading of it into a draft of a law. */
    private static final class Tape {
        private static final int MOST_BYTES = 120;
        private static final int MOST_DIGITS = 4;

        private final int[] bytes = new int[MOST_BYTES];
        private final Meter draft = new Meter();
        private int size;
        /** The place of the next byte to read; where reading fails, the fault. */
        private int at;

        int append(long w, int n) {
            for (int i = n - 1; i >= 0; i--) {
                bytes[size] = (int) (w >>> (8 * i)) & 255;
                size++;
            }
            return size;
        }

        /** Reads the tape and empties it: the fault, or NONE if the draft is a law. */
        int read() {
            at = 0;
            draft.size = 0;
            int fault = readClauses() ? NONE : at;
            size = 0;
            return fault;
        }

        private boolean readClauses() {
            for (int clause = 1; clause <= Meter.MOST_CLAUSES; clause++) {
                if (!readClause()) {
                    return false;
                }
                if (at == size) {
                    return true;
                }
                if (clause == Meter.MOST_CLAUSES || !readByte(';')) {
                    return false;
                }
            }
            return false;
        }

        private boolean readClause() {
            int kind = readWord();
            if (kind == NONE) {
                return false;
            }
            int ward = NONE;
            if (kind == Meter.WARD) {
                ward = readDigit(WARDS - 1);
                if (ward == NONE || !readByte(' ')) {
                    return false;
                }
            }
            int amount = readNumber();
            if (amount == NONE) {
                return false;
            }
            draft.add(kind, ward, amount);
            return true;
        }

        /** Reads a clause's word and the blank: its kind; NONE, and the fault is behind the longest match. */
        private int readWord() {
            int longest = 0;
            for (int kind = Meter.BASE; kind <= Meter.CAP; kind++) {
                String word = wordOf(kind);
                int same = sameBytes(word);
                if (same == word.length()) {
                    at += same;
                    return kind;
                }
                longest = Math.max(longest, same);
            }
            at += longest;
            return NONE;
        }

        private static String wordOf(int kind) {
            switch (kind) {
                case Meter.BASE: return "base ";
                case Meter.STEP: return "step ";
                case Meter.NIGHT: return "night ";
                case Meter.WARD: return "ward ";
                case Meter.WAIT: return "wait ";
                default: return "cap ";
            }
        }

        /** How many signs of a word the tape goes on with. */
        private int sameBytes(String word) {
            int same = 0;
            while (same < word.length() && at + same < size && bytes[at + same] == word.charAt(same)) {
                same++;
            }
            return same;
        }

        private boolean readByte(char sign) {
            if (at < size && bytes[at] == sign) {
                at++;
                return true;
            }
            return false;
        }

        private int readDigit(int most) {
            if (at < size && within(bytes[at] - '0', 0, most)) {
                at++;
                return bytes[at - 1] - '0';
            }
            return NONE;
        }

        private int readNumber() {
            int number = readDigit(9);
            for (int digits = 1; digits < MOST_DIGITS && number != NONE; digits++) {
                int digit = readDigit(9);
                if (digit == NONE) {
                    return number;
                }
                number = number * 10 + digit;
            }
            return number;
        }
    }

    /** How many ask for a ride, by hour of the day and ward. */
    private static final class Asks {
        private final int[] row = new int[HOURS_A_DAY * WARDS];

        int at(int hourOfDay, int ward) {
            return row[hourOfDay * WARDS + ward];
        }

        int replace(int hourOfDay, int ward, int n) {
            int before = at(hourOfDay, ward);
            row[hourOfDay * WARDS + ward] = n;
            return before;
        }

        int ofAllWards(int hourOfDay) {
            int sum = 0;
            for (int ward = 0; ward < WARDS; ward++) {
                sum += at(hourOfDay, ward);
            }
            return sum;
        }
    }

    /** The rides that are kept: of each hour, plate, from, to, fare. */
    private static final class Rides {
        private static final int MOST_RIDES = 300;
        private static final int PARTS = 5;
        private static final int HOUR = 0;
        private static final int PLATE = 1;
        private static final int FROM = 2;
        private static final int TO = 3;
        private static final int FARE = 4;

        private final int[] row = new int[MOST_RIDES * PARTS];
        private int size;

        boolean has(int k) {
            return within(k, 0, size - 1);
        }

        int detail(int k, int what) {
            return row[k * PARTS + what];
        }

        void keep(int hour, int p, int from, int to, int price) {
            if (size == MOST_RIDES) {
                return;
            }
            int start = size * PARTS;
            row[start + HOUR] = hour;
            row[start + PLATE] = p;
            row[start + FROM] = from;
            row[start + TO] = to;
            row[start + FARE] = price;
            size++;
        }

        int search(int fromHour, int toHour, int from, int to, int i) {
            int seen = 0;
            for (int k = 0; k < size; k++) {
                if (within(detail(k, HOUR), fromHour, toHour) && fits(k, FROM, from) && fits(k, TO, to)) {
                    if (seen == i) {
                        return k;
                    }
                    seen++;
                }
            }
            return NONE;
        }

        private boolean fits(int k, int what, int ward) {
            return ward == NONE || detail(k, what) == ward;
        }
    }

    /** All that changes when hours go by, so that a second city can try them. */
    private static final class City {
        private static final int MOST_WAITED = 2;
        private static final int WAITS = MOST_WAITED + 1;

        private final Plates plates;
        private final Roster roster;
        private final Meter meter;
        private final Asks asks;
        /** Where rides are kept, or null if they are not. */
        private final Rides kept;

        private final int[] where = new int[MOST_PLATES];
        private final int[] hours = new int[MOST_PLATES];
        private final int[] took = new int[MOST_PLATES];
        private final int[] driverHours = new int[MOST_DRIVERS];
        private final int[] earned = new int[MOST_DRIVERS];
        /** How many wait: by ward and by hours waited. */
        private final int[] waiting = new int[WARDS * WAITS];
        /** How many rides went from each ward, modulo the wards. */
        private final int[] turns = new int[WARDS];
        /** Plates that run in this hour and took nobody. */
        private final boolean[] roams = new boolean[MOST_PLATES];
        private int hour;
        private int rideCount;
        private int lostCount;
        private int idleHours;
        private int taken;

        City(Plates plates, Roster roster, Meter meter, Asks asks, Rides kept) {
            this.plates = plates;
            this.roster = roster;
            this.meter = meter;
            this.asks = asks;
            this.kept = kept;
            for (int p = 0; p < MOST_PLATES; p++) {
                where[p] = NONE;
            }
        }

        /** Takes over what later hours depend on, but not what plates and drivers had so far. */
        void copy(City other) {
            System.arraycopy(other.where, 0, where, 0, MOST_PLATES);
            System.arraycopy(other.waiting, 0, waiting, 0, WARDS * WAITS);
            System.arraycopy(other.turns, 0, turns, 0, WARDS);
            hour = other.hour;
        }

        void clearSums() {
            rideCount = 0;
            lostCount = 0;
            idleHours = 0;
            taken = 0;
        }

        int put(int p, int ward) {
            int before = where[p];
            where[p] = ward;
            return before;
        }

        void passHours(int n) {
            for (int i = 0; i < n; i++) {
                passHour(hour % HOURS_A_DAY);
                hour++;
            }
        }

        private void passHour(int hourOfDay) {
            for (int ward = 0; ward < WARDS; ward++) {
                waiting[ward * WAITS] += asks.at(hourOfDay, ward);
            }
            int shift = within(hourOfDay, 4, 15) ? 0 : 1;
            for (int p = 0; p < plates.size; p++) {
                int d = roster.driverOf[p * 2 + shift];
                boolean runs = where[p] != NONE && d != NONE;
                roams[p] = runs && !serve(p, d, hourOfDay);
            }
            for (int p = 0; p < plates.size; p++) {
                if (roams[p]) {
                    idleHours++;
                    roam(p);
                }
            }
            for (int ward = 0; ward < WARDS; ward++) {
                tire(ward * WAITS);
            }
        }

        /** An hour of a plate that runs: whether it took somebody. */
        private boolean serve(int p, int d, int hourOfDay) {
            hours[p]++;
            driverHours[d]++;
            int from = where[p];
            int waited = longestWait(from);
            if (waited == NONE) {
                return false;
            }
            waiting[from * WAITS + waited]--;
            int to = (from + 1 + turns[from]) % WARDS;
            turns[from] = (turns[from] + 1) % WARDS;
            int price = meter.price(from, to, hourOfDay, waited);
            took[p] += price;
            earned[d] += price;
            taken += price;
            rideCount++;
            if (kept != null) {
                kept.keep(hour, p, from, to, price);
            }
            where[p] = plates.restingWard(p, to);
            return true;
        }

        private int longestWait(int ward) {
            for (int waited = MOST_WAITED; waited >= 0; waited--) {
                if (waiting[ward * WAITS + waited] > 0) {
                    return waited;
                }
            }
            return NONE;
        }

        private int waitingIn(int ward) {
            int sum = 0;
            for (int waited = 0; waited < WAITS; waited++) {
                sum += waiting[ward * WAITS + waited];
            }
            return sum;
        }

        private void roam(int p) {
            int best = where[p];
            int most = waitingIn(best);
            for (int ward = 0; ward < WARDS; ward++) {
                if (plates.mayStand(p, ward) && waitingIn(ward) > most) {
                    best = ward;
                    most = waitingIn(ward);
                }
            }
            where[p] = best;
        }

        /** An hour's end in the ward whose waiting ones start there: who had waited longest is lost. */
        private void tire(int start) {
            lostCount += waiting[start + MOST_WAITED];
            for (int waited = MOST_WAITED; waited > 0; waited--) {
                waiting[start + waited] = waiting[start + waited - 1];
            }
            waiting[start] = 0;
        }
    }

    /** Loans, and what each would have of a sum that is parted. */
    private static final class Loans {
        private static final int MOST_LOANS = 30;
        private static final int LAST_RANK = 9;

        private final int[] plateOf = new int[MOST_LOANS];
        private final int[] ranks = new int[MOST_LOANS];
        private final int[] sums = new int[MOST_LOANS];
        private final int[] parts = new int[MOST_LOANS];
        private int size;

        boolean has(int loan) {
            return within(loan, 0, size - 1);
        }

        int add(int p, int rank, int sum) {
            plateOf[size] = p;
            ranks[size] = rank;
            sums[size] = sum;
            size++;
            return size - 1;
        }

        int debt(int p) {
            int debt = 0;
            for (int i = 0; i < size; i++) {
                if (plateOf[i] == p) {
                    debt += sums[i];
                }
            }
            return debt;
        }

        /** Parts a sum among a plate's loans, into their parts. */
        void divide(int p, int sum) {
            int left = sum;
            for (int rank = 0; rank <= LAST_RANK; rank++) {
                int due = rankDebt(p, rank);
                if (left >= due) {
                    payRank(p, rank);
                    left -= due;
                } else {
                    shareRank(p, rank, left, due);
                    left = 0;
                }
            }
        }

        /** Each of a plate's loans is just its part from now on. */
        void settle(int p) {
            for (int i = 0; i < size; i++) {
                if (plateOf[i] == p) {
                    sums[i] = parts[i];
                }
            }
        }

        private boolean isOf(int i, int p, int rank) {
            return plateOf[i] == p && ranks[i] == rank;
        }

        private int rankDebt(int p, int rank) {
            int due = 0;
            for (int i = 0; i < size; i++) {
                if (isOf(i, p, rank)) {
                    due += sums[i];
                }
            }
            return due;
        }

        private void payRank(int p, int rank) {
            for (int i = 0; i < size; i++) {
                if (isOf(i, p, rank)) {
                    parts[i] = sums[i];
                }
            }
        }

        /** Shares out less than what is due; so due is above 0, and each share below its sum. */
        private void shareRank(int p, int rank, int sum, int due) {
            int left = sum;
            for (int i = 0; i < size; i++) {
                if (isOf(i, p, rank) && due > 0) {
                    parts[i] = (int) ((long) sum * sums[i] / due);
                    left -= parts[i];
                }
            }
            for (int i = 0; i < size && left > 0; i++) {
                if (isOf(i, p, rank) && parts[i] < sums[i]) {
                    parts[i]++;
                    left--;
                }
            }
        }
    }

    /** Fleets with the sets of hours from which each takes one to change over. */
    private static final class Fleets {
        private static final int MOST_FLEETS = 6;
        private static final int HOURS = 8;
        private static final int FIRST_HOUR = 12;
        private static final int GROUPS = 1 << MOST_FLEETS;
        /** Three bits a fleet: one ask counts more than all that the order of the fleets' hours can. */
        private static final int ASK_SHIFT = 3 * MOST_FLEETS;
        /** Above all ratings: 600 asks at most are taken together. */
        private static final int IMPOSSIBLE = 1 << 30;

        private final Asks asks;
        private final int[] sets = new int[MOST_FLEETS];
        private int size;

        /**
         * For each group of fleets the least rating of the ways to place it in the hours so far. A way's
         * rating has its asks in the high bits and below them the fleets' hours, the first fleet's
         * highest: so the least rating is of the least asks and, of several, of the first way in order.
         */
        private final int[] ratings = new int[GROUPS];
        /** For each group of fleets what it adds to a rating, if all of it takes the hour at hand. */
        private final int[] added = new int[GROUPS];
        private int greatest;

        Fleets(Asks asks) {
            this.asks = asks;
        }

        int add(int set) {
            sets[size] = set;
            size++;
            return size - 1;
        }

        int clear() {
            int before = size;
            size = 0;
            return before;
        }

        /** Spreads the fleets: looks for the least greatest number in one hour with which they all have one. */
        void arrange() {
            greatest = 0;
            placeAll(0);
            while (ratings[everyFleet()] == IMPOSSIBLE && greatest < size) {
                greatest++;
                placeAll(greatest);
            }
        }

        int asksTogether() {
            return ratings[everyFleet()] >> ASK_SHIFT;
        }

        int hourOf(int fleet) {
            return FIRST_HOUR + ((ratings[everyFleet()] >> lowestBit(fleet)) & (HOURS - 1));
        }

        private int everyFleet() {
            return (1 << size) - 1;
        }

        private static int lowestBit(int fleet) {
            return 3 * (MOST_FLEETS - 1 - fleet);
        }

        private void placeAll(int most) {
            for (int group = 1; group < GROUPS; group++) {
                ratings[group] = IMPOSSIBLE;
            }
            ratings[0] = 0;
            for (int i = 0; i < HOURS; i++) {
                rateHour(i);
                placeHour(takersOf(i), most);
            }
        }

        private int takersOf(int i) {
            int takers = 0;
            for (int fleet = 0; fleet < size; fleet++) {
                takers |= ((sets[fleet] >> i) & 1) << fleet;
            }
            return takers;
        }

        private void rateHour(int i) {
            int ofOne = asks.ofAllWards(FIRST_HOUR + i) << ASK_SHIFT;
            added[0] = 0;
            for (int fleet = 0; fleet < size; fleet++) {
                int alone = 1 << fleet;
                for (int group = alone; group < 2 * alone; group++) {
                    added[group] = added[group - alone] + ofOne + (i << lowestBit(fleet));
                }
            }
        }

        /** Lets up to so many of the takers take the hour; greater groups first, as they look at smaller ones. */
        private void placeHour(int takers, int most) {
            for (int group = everyFleet(); group > 0; group--) {
                int able = group & takers;
                for (int some = able; some > 0; some = (some - 1) & able) {
                    int before = ratings[group ^ some];
                    if (before != IMPOSSIBLE && Integer.bitCount(some) <= most) {
                        ratings[group] = Math.min(ratings[group], before + added[some]);
                    }
                }
            }
        }
    }

    /** The line at the airport. */
    private static final class Line {
        private final int[] row = new int[MOST_PLATES];
        private int size;

        int placeOf(int p) {
            for (int place = 0; place < size; place++) {
                if (row[place] == p) {
                    return place;
                }
            }
            return NONE;
        }

        /** A plate is in the line once at most, so there is room; looked at all the same, as the row is used. */
        int append(int p) {
            if (size < MOST_PLATES) {
                row[size] = p;
                size++;
            }
            return size;
        }

        void removeAt(int place) {
            for (int i = place + 1; i < size; i++) {
                row[i - 1] = row[i];
            }
            size--;
        }
    }
}
