/** A city whose cabs go by where the last fare wept; what it promises stands in ../shared/DOC.md. */
public final class CabTears {
    public static final int BAD = -1, NO = -2, FULL = -3, NONE = -4;

    private static final String FIRST_TEXT =
            "g4,4;c0,0,10;c1,15,15;c2,5,2;f0,1,14,0,9;f1,4,7,2,20;f2,12,3,3,12;f3,9,2,5,15;f0,6,11,6,6;f1,13,0,9,30;";

    private static final int MOST_LETTERS = 200, MOST_NUMBERS = 5, MOST_FIGURES = 2;
    private static final int MOST_SIDE = 6, FIRST_SIDE = 4, MOST_CABS = 3, MOST_FARES = 7;
    private static final int LATEST_SINCE = 99, MOST_BORNE = 60;
    private static final int MOST_UNDONE = 8, MOST_KEPT = 2, MOST_SEEN = 6;
    private static final int MOST_PASSED = 60, MOST_TURNS = 4, MOST_DAYS = 40, LATEST_SEEN = 400;

    private static final int SOFT = 1, BRISK = 2, CAB_KINDS = 3;
    private static final int PLAIN = 0, GIRL = 1, BREWER = 3, FARE_KINDS = 4;
    private static final int STAND = 1, SOFT_STAND = 3, BRISK_REACH = 3;

    private static final int NOWHERE = NONE, NOWHERE_ALONE = 99;
    private static final int EVEN = 10, TENTHS = 10;
    private static final int LAST_YEAR = 9999, MOST_RIDES = 40;

    private final Text text = new Text();
    private final City city = new City();
    private final City draft = new City();
    private final Stand stand = new Stand();
    private final Stand trial = new Stand();
    private final Shelf done = new Shelf(MOST_UNDONE);
    private final Shelf kept = new Shelf(MOST_KEPT);
    private final Seen seen = new Seen();
    private final Orders orders = new Orders();
    private final Duel duel = new Duel();
    private final long[] days = new long[MOST_DAYS + 1];

    public CabTears() {
        for (int i = 0; i < FIRST_TEXT.length(); i++) {
            text.add(FIRST_TEXT.charAt(i));
        }
        text.readInto(city);
        text.length = 0;
        begin();
    }

    // ---- cities

    public int write(int letter) {
        if (!within(letter, 32, 126)) {
            return BAD;
        }
        return text.add((char) letter) ? text.length : FULL;
    }

    public int wipe() {
        int was = text.length;
        text.length = 0;
        return was;
    }

    public int fault() {
        return text.readInto(draft);
    }

    public int lay() {
        if (text.readInto(draft) != NONE || draft.cabs == 0 || draft.fares == 0) {
            return NO;
        }
        text.readInto(city);
        begin();
        return city.places();
    }

    public int far(int a, int b) {
        return city.hasPlace(a) && city.hasPlace(b) ? city.steps(a, b) : BAD;
    }

    public int cab(int c, int what) {
        if (!city.hasCab(c)) {
            return BAD;
        }
        switch (what) {
            case 0: return city.cabKind[c];
            case 1: return stand.place[c];
            case 2: return stand.free[c];
            case 3: return stand.weptIn[c];
            default: return BAD;
        }
    }

    public int fare(int f, int what) {
        if (!city.hasFare(f)) {
            return BAD;
        }
        switch (what) {
            case 0: return city.fareKind[f];
            case 1: return city.from[f];
            case 2: return city.to[f];
            case 3: return city.since[f];
            case 4: return city.bears[f];
            case 5: return stand.isTaken(f) ? 1 : 0;
            case 6: return stand.late[f];
            case 7: return stand.tears[f];
            default: return BAD;
        }
    }

    // ---- rides

    public int take(int c, int f) {
        if (!city.hasCab(c) || !city.hasFare(f)) {
            return BAD;
        }
        if (stand.isTaken(f)) {
            return NO;
        }
        done.put(stand);
        city.drive(stand, c, f);
        return stand.late[f];
    }

    public int send(int c, int p) {
        if (!city.hasCab(c) || !city.hasPlace(p)) {
            return BAD;
        }
        done.put(stand);
        city.move(stand, c, p);
        return stand.free[c];
    }

    public int pass(int n) {
        if (!within(n, 1, MOST_PASSED)) {
            return BAD;
        }
        done.put(stand);
        stand.now += n;
        return stand.now;
    }

    public int undo() {
        return done.giveBack(stand) ? done.held : NO;
    }

    // ---- what comes

    public int ride(int c, int f, int what) {
        if (!city.hasCab(c) || !city.hasFare(f)) {
            return BAD;
        }
        city.reckon(stand, c, f);
        switch (what) {
            case 0: return city.trip.free;
            case 1: return city.trip.late;
            case 2: return city.trip.weeps ? 1 : 0;
            case 3: return city.trip.by ? 1 : 0;
            default: return BAD;
        }
    }

    public int soonest(int f) {
        return city.hasFare(f) ? city.nearest(stand, f) : BAD;
    }

    public int order(int k) {
        if (!within(k, 0, MOST_FARES)) {
            return BAD;
        }
        orders.search(city, stand);
        if (k == 0) {
            return orders.fewest;
        }
        return k <= orders.length ? orders.best[k - 1] : NONE;
    }

    public int waiting(int c, int what) {
        if (!city.hasCab(c) || !within(what, 0, 1)) {
            return BAD;
        }
        int place = 0;
        int least = lateFrom(c, 0);
        for (int p = 1; p < city.places(); p++) {
            int late = lateFrom(c, p);
            if (late < least) {
                least = late;
                place = p;
            }
        }
        return what == 0 ? place : least;
    }

    public int round(int what) {
        if (!within(what, 0, 1)) {
            return BAD;
        }
        trial.copy(stand);
        days[0] = trial.cabsAsNumber();
        for (int day = 1; day <= MOST_DAYS; day++) {
            liveOneDay();
            days[day] = trial.cabsAsNumber();
            int like = dayLike(day);
            if (like < day) {
                return what == 0 ? day : like;
            }
        }
        return NONE;
    }

    public int mends(int f) {
        if (!city.hasFare(f)) {
            return BAD;
        }
        if (stand.isTaken(f) || city.fareKind[f] != BREWER) {
            return NO;
        }
        // A BREWER does not WEEP: TAKEN last he changes nothing.
        trial.copy(stand);
        int last = tearsOfOthers(f);
        trial.copy(stand);
        city.driveSoonest(trial, f);
        return last - tearsOfOthers(f) + EVEN;
    }

    public int rivals(int c, int e, int n, int what) {
        boolean two = city.hasCab(c) && city.hasCab(e) && c != e;
        if (!two || !within(n, 1, MOST_TURNS) || !within(what, 0, 1)) {
            return BAD;
        }
        duel.fight(city, stand, c, e, n);
        return what == 0 ? duel.outcome + EVEN : duel.opening;
    }

    // ---- what was seen

    public int see(int c, int f, int s) {
        if (!city.hasCab(c) || !city.hasFare(f) || !within(s, 0, LATEST_SEEN)) {
            return BAD;
        }
        return seen.add(c, f, s) ? seen.held : FULL;
    }

    public int forget() {
        int were = seen.held;
        seen.held = 0;
        return were;
    }

    public int wept(int c, int what) {
        if (!city.hasCab(c) || !within(what, 0, 1)) {
            return BAD;
        }
        int fitting = fitsSeen(c, city.cabKind[c], NOWHERE) ? 1 : 0;
        int lowest = fitting == 1 ? NOWHERE_ALONE : NONE;
        for (int p = city.places() - 1; p >= 0; p--) {
            if (fitsSeen(c, city.cabKind[c], p)) {
                fitting++;
                lowest = p;
            }
        }
        return what == 0 ? fitting : lowest;
    }

    public int kinds(int c) {
        if (!city.hasCab(c)) {
            return BAD;
        }
        int bits = 0;
        for (int kind = 0; kind < CAB_KINDS; kind++) {
            if (fitsSeen(c, kind, stand.weptIn[c])) {
                bits |= 1 << kind;
            }
        }
        return bits;
    }

    // ---- tears, years

    public int tears(int n, int x, int part) {
        if (!within(n, 0, MOST_FARES) || !within(x, 0, TENTHS) || !within(part, 0, 1)) {
            return BAD;
        }
        int rest = restOf(city, stand);
        int below = power(TENTHS, rest);
        int above = 0;
        for (int weepers = 0; weepers < 1 << rest; weepers++) {
            int weeping = Integer.bitCount(weepers);
            int weight = power(x, weeping) * power(TENTHS - x, rest - weeping);
            if (weight > 0 && lateAmong(weepers) >= n) {
                above += weight;
            }
        }
        int shared = commonDivisor(above, below);
        return (part == 0 ? above : below) / Math.max(1, shared);
    }

    public int year(int z, int n, int what) {
        if (!within(z, 0, LAST_YEAR) || !within(n, 1, MOST_RIDES) || !within(what, 0, 1)) {
            return BAD;
        }
        trial.copy(stand);
        int weeping = 0;
        int late = 0;
        for (int k = 0; k < n; k++) {
            int draw = drawn(z, k);
            int f = draw / 4 % Math.max(1, city.fares);
            int c = draw % Math.max(1, city.cabs);
            weeping += city.drive(trial, c, f) ? 1 : 0;
            late += trial.late[f];
            trial.now += draw / 64 % 8;
        }
        return what == 0 ? weeping : late;
    }

    public int keep() {
        if (kept.held == MOST_KEPT) {
            return FULL;
        }
        kept.put(stand);
        return kept.held;
    }

    public int back() {
        if (!kept.giveBack(stand)) {
            return NO;
        }
        done.held = 0;
        return kept.held;
    }

    public int count(int what) {
        switch (what) {
            case 0: return city.places();
            case 1: return city.columns;
            case 2: return city.cabs;
            case 3: return city.fares;
            case 4: return stand.now;
            case 5: return city.fares - restOf(city, stand);
            case 6: return howManyWept();
            case 7: return seen.held;
            case 8: return done.held;
            case 9: return kept.held;
            case 10: return text.length;
            default: return BAD;
        }
    }

    // ---- helpers of the face

    private static boolean within(int number, int least, int most) {
        return number >= least && number <= most;
    }

    private void begin() {
        stand.begin(city);
        done.held = 0;
        kept.held = 0;
        seen.held = 0;
    }

    private static int restOf(City city, Stand stand) {
        int rest = 0;
        for (int f = 0; f < city.fares; f++) {
            rest += stand.isTaken(f) ? 0 : 1;
        }
        return rest;
    }

    private int howManyWept() {
        int wept = 0;
        for (int f = 0; f < city.fares; f++) {
            wept += stand.tears[f];
        }
        return wept;
    }

    /** How LATE all of REST would be in sum, each as if he were the first, were the CAB SENT to p now. */
    private int lateFrom(int c, int p) {
        trial.copy(stand);
        city.move(trial, c, p);
        int late = 0;
        for (int f = 0; f < city.fares; f++) {
            if (!trial.isTaken(f)) {
                city.reckon(trial, c, f);
                late += city.trip.late;
            }
        }
        return late;
    }

    private void liveOneDay() {
        trial.dawn();
        for (int f = 0; f < city.fares; f++) {
            city.driveSoonest(trial, f);
        }
    }

    /** The first day behind which CABS stood as behind this one. */
    private int dayLike(int day) {
        for (int d = 0; d < day; d++) {
            if (days[d] == days[day]) {
                return d;
            }
        }
        return day;
    }

    private int tearsOfOthers(int f) {
        int weeping = 0;
        for (int other = 0; other < city.fares; other++) {
            if (other != f && !trial.isTaken(other)) {
                weeping += city.driveSoonest(trial, other) ? 1 : 0;
            }
        }
        return weeping;
    }

    private boolean fitsSeen(int c, int kind, int weptIn) {
        for (int i = 0; i < seen.held; i++) {
            if (seen.cab[i] == c) {
                city.reckonAs(stand, c, seen.fare[i], kind, weptIn);
                if (city.trip.free != seen.step[i]) {
                    return false;
                }
            }
        }
        return true;
    }

    /** How many of REST are LATE by more than they BEAR, if just those of them WEEP whose bit is set. */
    private int lateAmong(int weepers) {
        trial.copy(stand);
        int late = 0;
        int bits = weepers;
        for (int f = 0; f < city.fares; f++) {
            if (!trial.isTaken(f)) {
                int c = city.nearest(trial, f);
                city.reckon(trial, c, f);
                late += city.trip.late > city.bears[f] ? 1 : 0;
                city.settle(trial, c, f, (bits & 1) == 1);
                bits >>= 1;
            }
        }
        return late;
    }

    private static int drawn(int z, int k) {
        long x = 7919L * z + 6151L * k + 1;
        return (int) (x * x % 65521);
    }

    private static int power(int base, int exponent) {
        int result = 1;
        for (int i = 0; i < exponent; i++) {
            result *= base;
        }
        return result;
    }

    private static int commonDivisor(int a, int b) {
        int left = a;
        int right = b;
        for (int i = 0; i < 64 && right != 0; i++) {
            int remainder = left % right;
            left = right;
            right = remainder;
        }
        return left;
    }

    /** THE TEXT, and what it tells. */
    private static final class Text {
        final char[] letters = new char[MOST_LETTERS];
        int length;
        final int[] numbers = new int[MOST_NUMBERS];
        int told;

        boolean add(char letter) {
            if (length >= MOST_LETTERS) {
                return false;
            }
            letters[length] = letter;
            length++;
            return true;
        }

        /** FAULT or NONE; the city is all that the ITEMS ahead of the FAULT tell. */
        int readInto(City city) {
            city.clear();
            int start = 0;
            for (int i = 0; i < length; i++) {
                if (letters[i] == ';') {
                    if (!readNumbers(start, i) || !tell(city, letters[start])) {
                        return start;
                    }
                    start = i + 1;
                }
            }
            return start < length ? start : NONE;
        }

        /** The numbers of the ITEM whose letter stands at start and whose ; stands at end. */
        private boolean readNumbers(int start, int end) {
            told = 0;
            int figures = 0;
            int number = 0;
            for (int i = start + 1; i <= end; i++) {
                char letter = letters[i];
                if (letter >= '0' && letter <= '9' && figures < MOST_FIGURES) {
                    number = number * 10 + letter - '0';
                    figures++;
                } else if ((letter == ',' || letter == ';') && figures > 0 && told < MOST_NUMBERS) {
                    numbers[told] = number;
                    told++;
                    figures = 0;
                    number = 0;
                } else {
                    return false;
                }
            }
            return true;
        }

        private boolean tell(City city, char letter) {
            if (letter == 'g') {
                return told == 2 && city.build(numbers[0], numbers[1]);
            }
            if (letter == 'c') {
                return told == 3 && city.addCab(numbers[0], numbers[1], numbers[2]);
            }
            return letter == 'f' && told == 5 && city.addFare(numbers);
        }
    }

    /** What a RIDE would be like. */
    private static final class Trip {
        int free;
        int late;
        boolean weeps;
        boolean by;
    }

    /** A city with its CABS and FARES as THE TEXT tells them, and how one is driven in it. */
    private static final class City {
        int rows;
        int columns;
        int cabs;
        int fares;
        final int[] cabKind = new int[MOST_CABS];
        final int[] cabPlace = new int[MOST_CABS];
        final int[] cabWeptIn = new int[MOST_CABS];
        final int[] fareKind = new int[MOST_FARES];
        final int[] from = new int[MOST_FARES];
        final int[] to = new int[MOST_FARES];
        final int[] since = new int[MOST_FARES];
        final int[] bears = new int[MOST_FARES];
        final Trip trip = new Trip();

        void clear() {
            rows = FIRST_SIDE;
            columns = FIRST_SIDE;
            cabs = 0;
            fares = 0;
        }

        boolean build(int r, int c) {
            if (cabs > 0 || fares > 0 || !within(r, 1, MOST_SIDE) || !within(c, 1, MOST_SIDE)) {
                return false;
            }
            rows = r;
            columns = c;
            return true;
        }

        boolean addCab(int kind, int place, int weptIn) {
            if (cabs >= MOST_CABS || !within(kind, 0, CAB_KINDS - 1) || !hasPlace(place) || !hasPlace(weptIn)) {
                return false;
            }
            cabKind[cabs] = kind;
            cabPlace[cabs] = place;
            cabWeptIn[cabs] = weptIn == place ? NOWHERE : weptIn;
            cabs++;
            return true;
        }

        boolean addFare(int[] told) {
            if (fares >= MOST_FARES || told.length < MOST_NUMBERS) {
                return false;
            }
            boolean known = within(told[0], 0, FARE_KINDS - 1) && hasPlace(told[1]) && hasPlace(told[2]);
            if (!known || !within(told[3], 0, LATEST_SINCE) || !within(told[4], 0, MOST_BORNE)) {
                return false;
            }
            fareKind[fares] = told[0];
            from[fares] = told[1];
            to[fares] = told[2];
            since[fares] = told[3];
            bears[fares] = told[4];
            fares++;
            return true;
        }

        int places() {
            return rows * columns;
        }

        boolean hasPlace(int p) {
            return within(p, 0, places() - 1);
        }

        boolean hasCab(int c) {
            return within(c, 0, cabs - 1);
        }

        boolean hasFare(int f) {
            return within(f, 0, fares - 1);
        }

        int steps(int a, int b) {
            int wide = Math.max(1, columns);
            return Math.abs(a / wide - b / wide) + Math.abs(a % wide - b % wide);
        }

        void reckon(Stand stand, int c, int f) {
            reckonAs(stand, c, f, cabKind[c], stand.weptIn[c]);
        }

        /** The RIDE as it would be, were the CAB of that KIND and had one WEPT there in it last. */
        void reckonAs(Stand stand, int c, int f, int kind, int weptIn) {
            int start = Math.max(Math.max(stand.now, stand.free[c]), since[f]);
            trip.by = weptIn != NOWHERE && !(kind == BRISK && steps(from[f], weptIn) > BRISK_REACH);
            int way = steps(from[f], to[f]);
            if (trip.by) {
                int standing = kind == SOFT ? SOFT_STAND : STAND;
                way = steps(from[f], weptIn) + standing + steps(weptIn, to[f]);
            }
            trip.free = start + steps(stand.place[c], from[f]) + way;
            trip.late = trip.free - since[f];
            trip.weeps = fareKind[f] == GIRL || fareKind[f] == PLAIN && trip.late > bears[f];
        }

        /** The CAB that is SOONEST. */
        int nearest(Stand stand, int f) {
            int best = 0;
            int least = 0;
            for (int c = 0; c < cabs; c++) {
                reckonAs(stand, c, f, cabKind[c], stand.weptIn[c]);
                if (c == 0 || trip.late < least) {
                    best = c;
                    least = trip.late;
                }
            }
            return best;
        }

        /** What stands behind the RIDE that was reckoned last, if the FARE WEEPS so. */
        void settle(Stand stand, int c, int f, boolean weeps) {
            stand.place[c] = to[f];
            stand.free[c] = trip.free;
            stand.late[f] = trip.late;
            stand.tears[f] = weeps ? 1 : 0;
            if (fareKind[f] == BREWER && trip.by) {
                stand.weptIn[c] = NOWHERE;
            } else if (weeps) {
                stand.weptIn[c] = to[f];
            }
        }

        /** True if the FARE WEEPS. */
        boolean drive(Stand stand, int c, int f) {
            reckon(stand, c, f);
            boolean weeps = trip.weeps;
            settle(stand, c, f, weeps);
            return weeps;
        }

        boolean driveSoonest(Stand stand, int f) {
            return drive(stand, nearest(stand, f), f);
        }

        void move(Stand stand, int c, int p) {
            stand.free[c] = Math.max(stand.now, stand.free[c]) + steps(stand.place[c], p);
            stand.place[c] = p;
        }
    }

    /** How things stand: all that RIDES and STEPS change. */
    private static final class Stand {
        int now;
        final int[] place = new int[MOST_CABS];
        final int[] free = new int[MOST_CABS];
        final int[] weptIn = new int[MOST_CABS];
        final int[] late = new int[MOST_FARES];
        final int[] tears = new int[MOST_FARES];

        void begin(City city) {
            System.arraycopy(city.cabPlace, 0, place, 0, MOST_CABS);
            System.arraycopy(city.cabWeptIn, 0, weptIn, 0, MOST_CABS);
            dawn();
        }

        /** Step 0 of a day; CABS stay where they are. */
        void dawn() {
            now = 0;
            for (int c = 0; c < MOST_CABS; c++) {
                free[c] = 0;
            }
            for (int f = 0; f < MOST_FARES; f++) {
                late[f] = NONE;
                tears[f] = 0;
            }
        }

        boolean isTaken(int f) {
            return late[f] != NONE;
        }

        void copy(Stand other) {
            now = other.now;
            System.arraycopy(other.place, 0, place, 0, MOST_CABS);
            System.arraycopy(other.free, 0, free, 0, MOST_CABS);
            System.arraycopy(other.weptIn, 0, weptIn, 0, MOST_CABS);
            System.arraycopy(other.late, 0, late, 0, MOST_FARES);
            System.arraycopy(other.tears, 0, tears, 0, MOST_FARES);
        }

        /** Alike just where all CABS of a city are in the same PLACES, and one WEPT in the same ones. */
        long cabsAsNumber() {
            long number = 0;
            for (int c = 0; c < MOST_CABS; c++) {
                number = (number * 64 + place[c]) * 64 + weptIn[c] - NOWHERE;
            }
            return number;
        }
    }

    /** The last stands put by, the newest on top; a full one loses its oldest. */
    private static final class Shelf {
        final Stand[] stands;
        int top;
        int held;

        Shelf(int size) {
            stands = new Stand[Math.max(1, size)];
            for (int i = 0; i < stands.length; i++) {
                stands[i] = new Stand();
            }
        }

        void put(Stand stand) {
            stands[top].copy(stand);
            top = top + 1 < stands.length ? top + 1 : 0;
            held = Math.min(held + 1, stands.length);
        }

        boolean giveBack(Stand stand) {
            if (held == 0) {
                return false;
            }
            top = top > 0 ? top - 1 : stands.length - 1;
            held--;
            stand.copy(stands[top]);
            return true;
        }
    }

    /** What is SEEN. */
    private static final class Seen {
        final int[] cab = new int[MOST_SEEN];
        final int[] fare = new int[MOST_SEEN];
        final int[] step = new int[MOST_SEEN];
        int held;

        boolean add(int c, int f, int s) {
            if (held >= MOST_SEEN) {
                return false;
            }
            cab[held] = c;
            fare[held] = f;
            step[held] = s;
            held++;
            return true;
        }
    }

    /** ORDER: tries the orders of REST, the first ones first. */
    private static final class Orders {
        final Stand[] stands = new Stand[MOST_FARES + 1];
        final int[] tried = new int[MOST_FARES];
        final int[] best = new int[MOST_FARES];
        int length;
        int fewest;

        Orders() {
            for (int i = 0; i < stands.length; i++) {
                stands[i] = new Stand();
            }
        }

        void search(City city, Stand stand) {
            stands[0].copy(stand);
            length = restOf(city, stand);
            fewest = length + 1;
            int girls = 0;
            for (int f = 0; f < city.fares; f++) {
                girls += city.fareKind[f] == GIRL && !stand.isTaken(f) ? 1 : 0;
            }
            extend(this, city, 0, girls);
        }

        /** GIRLS WEEP in every order: they are in sure from the start, so that fewer orders need a look. */
        private static void extend(Orders o, City city, int depth, int sure) {
            if (depth >= o.length || depth >= MOST_FARES) {
                o.keepIfFewer(sure);
                return;
            }
            Stand here = o.stands[depth];
            Stand next = o.stands[depth + 1];
            for (int f = 0; f < city.fares && sure < o.fewest; f++) {
                if (!here.isTaken(f)) {
                    next.copy(here);
                    o.tried[depth] = f;
                    boolean more = city.driveSoonest(next, f) && city.fareKind[f] != GIRL;
                    extend(o, city, depth + 1, more ? sure + 1 : sure);
                }
            }
        }

        private void keepIfFewer(int weeping) {
            if (weeping < fewest) {
                fewest = weeping;
                System.arraycopy(tried, 0, best, 0, MOST_FARES);
            }
        }
    }

    /** RIVALS: every way in which the two can take turns. */
    private static final class Duel {
        final Stand[] stands = new Stand[MOST_TURNS + 1];
        int first;
        int second;
        int turns;
        int outcome;
        int opening;

        Duel() {
            for (int i = 0; i < stands.length; i++) {
                stands[i] = new Stand();
            }
        }

        void fight(City city, Stand stand, int c, int e, int n) {
            stands[0].copy(stand);
            first = c;
            second = e;
            turns = Math.min(Math.min(n, MOST_TURNS), restOf(city, stand));
            opening = NONE;
            outcome = play(this, city, 0);
        }

        /** How many more WEEP in the first CAB than in the second from this turn on. */
        private static int play(Duel d, City city, int turn) {
            if (turn >= d.turns || turn >= MOST_TURNS) {
                return 0;
            }
            boolean firstsTurn = turn % 2 == 0;
            int sign = firstsTurn ? 1 : -1;
            int choice = NONE;
            int best = 0;
            for (int f = 0; f < city.fares; f++) {
                if (!d.stands[turn].isTaken(f)) {
                    d.stands[turn + 1].copy(d.stands[turn]);
                    boolean weeps = city.drive(d.stands[turn + 1], firstsTurn ? d.first : d.second, f);
                    int more = play(d, city, turn + 1) + (weeps ? sign : 0);
                    if (choice == NONE || more * sign < best * sign) {
                        choice = f;
                        best = more;
                    }
                }
            }
            d.opening = turn == 0 ? choice : d.opening;
            return best;
        }
    }
}
