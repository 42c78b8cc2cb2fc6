import java.util.Arrays;

/** Pallets that go round in a closed net of stations: the document is ../shared/DOC.md, its words are in capitals here. */
public final class PalletRounds {
    public static final int NONE = -1, BAD = -2, STATE = -3, FULL = -4;
    public static final long NO = -4611686018427387904L;

    private static final int MISSING = -11, OUTSIDE = -12, UNLIKE = -13, BELOW_NOTHING = -14;
    private static final int LINE = 0, STACK = 1, SHARE = 2, WALK = 3;
    private static final int CLASSES = 2, MOST_STATIONS = 5, MOST_OF_CLASS = 6, MOST_PARTS = 8;
    private static final int MOST_TIME = 9, MOST_WEIGHT = 9, MOST_DEMAND = 20, MOST_TURNS = 60;
    private static final int SHEETS = 4, LONGS = 0, INTS = 1, SHORTS = 2;
    private static final int FAULT = -100;
    private static final long LEAST_LONG = -9223372036854775808L, GREATEST_LONG = 9223372036854775807L;
    private static final long[] FACTORIALS = {1, 1, 2, 6, 24, 120, 720, 5040, 40320};
    private static final long[] CHOICES = {
        1, 0, 0, 0, 0, 0, 0,
        1, 1, 0, 0, 0, 0, 0,
        1, 2, 1, 0, 0, 0, 0,
        1, 3, 3, 1, 0, 0, 0,
        1, 4, 6, 4, 1, 0, 0,
        1, 5, 10, 10, 5, 1, 0,
        1, 6, 15, 20, 15, 6, 1
    };

    private final Net net = new Net();
    private final Net keptNet = new Net();
    private boolean imageKept = false;
    private final Tours tours = new Tours();
    private final States states = new States();
    private final Truth truth = new Truth();
    private final Tape tape = new Tape();
    private final Sheet[] sheets = new Sheet[SHEETS];
    private final int[] shown = new int[CLASSES * MOST_STATIONS];

    public PalletRounds() {
        for (int i = 0; i < SHEETS; i++) {
            sheets[i] = new Sheet();
        }
    }

    // ---- the net

    public int station(int kind, int time0, int time1) {
        if (!isKind(kind) || !isTime(time0) || !isTime(time1)) return BAD;
        if (net.size >= MOST_STATIONS) return FULL;
        int station = net.size;
        net.size++;
        net.kinds[station] = kind;
        net.times[station] = time0;
        net.times[MOST_STATIONS + station] = time1;
        netTold();
        return station;
    }

    public int time(int station, int part, int t) {
        if (!net.hasStation(station) || !isClass(part) || !isTime(t)) return BAD;
        int before = net.times[part * MOST_STATIONS + station];
        net.times[part * MOST_STATIONS + station] = t;
        netTold();
        return before;
    }

    public int becomes(int station, int kind) {
        if (!net.hasStation(station) || !isKind(kind)) return BAD;
        int before = net.kinds[station];
        net.kinds[station] = kind;
        netTold();
        return before;
    }

    public int route(int part, int from, int to, int w) {
        if (!isClass(part) || !net.hasStation(from) || !net.hasStation(to)) return BAD;
        if (w < 0 || w > MOST_WEIGHT) return BAD;
        int before = net.weightOf(part, from, to);
        net.setWeight(part, from, to, w);
        netTold();
        return before;
    }

    public int home(int part, int station) {
        if (!isClass(part) || !net.hasStation(station)) return BAD;
        int before = net.homes[part];
        net.homes[part] = station;
        netTold();
        return before;
    }

    public int parts(int part, int n) {
        if (!isClass(part) || n < 0 || n > MOST_OF_CLASS) return BAD;
        if (n + net.parts[1 - part] > MOST_PARTS) return FULL;
        int before = net.parts[part];
        net.parts[part] = n;
        netTold();
        return before;
    }

    public long pay(int part, long v) {
        if (!isClass(part)) return NO;
        long before = net.pays[part];
        net.pays[part] = v;
        return before;
    }

    public int feed(int n, int a, int b, int c, int d, int e) {
        if (n < 1 || n > 5) return BAD;
        if (!isByte(a) || !isByte(b) || !isByte(c) || !isByte(d) || !isByte(e)) return BAD;
        if (!tape.hasRoom(n)) return FULL;
        tape.append(a);
        if (n > 1) tape.append(b);
        if (n > 2) tape.append(c);
        if (n > 3) tape.append(d);
        if (n > 4) tape.append(e);
        return tape.size;
    }

    public int text() {
        int fault = tape.faultPlace();
        if (fault != NONE) {
            tape.size = 0;
            return FAULT - fault;
        }
        int happened = 0;
        int place = 0;
        for (int i = 0; i < Tape.ROOM && place < tape.size; i++) {
            if (obey(place)) happened++;
            place += Tape.clauseSize(tape.byteAt(place)) + 1;
        }
        tape.size = 0;
        return happened;
    }

    public int told(int station, int what) {
        if (!net.hasStation(station) || what < 0 || what > 2) return BAD;
        if (what == 0) return net.kinds[station];
        return net.times[(what - 1) * MOST_STATIONS + station];
    }

    public int taken(int station, int group) {
        if (!net.hasStation(station) || group < 0 || group > 2) return BAD;
        if (groupOf(net.kinds[station]) != group) return UNLIKE;
        return truth.standing[station];
    }

    public int of(int part, int what) {
        if (!isClass(part)) return BAD;
        switch (what) {
            case 0: return net.homes[part];
            case 1: return net.parts[part];
            case 2: return tours.round[part] ? 1 : 0;
            case 3: return tours.reached[part];
            default: return BAD;
        }
    }

    public long visits(int part, int station, int what) {
        if (!isClass(part) || !net.hasStation(station) || what < 0 || what > 1) return NO;
        if (!tours.round[part]) return NO;
        return what == 0 ? tours.visitsOf(part, station) : tours.demandOf(part, station);
    }

    // ---- constants, states

    public int sound() {
        return tours.isSound() ? 1 : 0;
    }

    public long constant(int n0, int n1, int m, int part) {
        if (n0 < 0 || n0 > MOST_OF_CLASS || n1 < 0 || n1 > MOST_OF_CLASS || n0 + n1 > MOST_PARTS) return NO;
        if (m < 0 || m > net.size || !isLine(part) || !tours.isSound()) return NO;
        if (n0 > 0 && net.parts[0] == 0 || n1 > 0 && net.parts[1] == 0) return NO;
        long above = states.constantOf(n0, n1, m);
        return fraction(above, factorial(n0) * factorial(n1), part);
    }

    public long odds(int sheet, int part) {
        if (!isSheet(sheet) || !isLine(part) || !tours.isSound()) return NO;
        if (!readState(sheets[sheet])) return NO;
        long above = states.weightOf(shown);
        return fraction(above, states.constantOf(net.parts[0], net.parts[1], net.size), part);
    }

    public int likely(int part, int station) {
        if (!isClass(part) || !net.hasStation(station)) return BAD;
        if (!tours.isSound()) return STATE;
        return states.likeliestAt(part, station);
    }

    public int film(int sheet) {
        if (!isSheet(sheet)) return BAD;
        if (!tours.isSound()) return STATE;
        Sheet row = sheets[sheet];
        row.become(INTS, CLASSES * net.size);
        for (int part = 0; part < CLASSES; part++) {
            for (int station = 0; station < net.size; station++) {
                row.store(part * net.size + station, states.likeliestAt(part, station));
            }
        }
        return row.size;
    }

    // ---- rates, numbers, waits

    public long rate(int part, int what, int line) {
        if (!isClass(part) || what < 0 || what > 4 || !isLine(line) || !tours.isSound()) return NO;
        int own = net.parts[part];
        int other = net.parts[1 - part];
        if (own == 0) return what < 2 ? fraction(0, 1, line) : NO;
        switch (what) {
            case 0: return rateOf(part, own, other, line);
            case 1: return rateOf(part, own, 0, line);
            case 2:
                if (own >= MOST_OF_CLASS || own + other >= MOST_PARTS) return NO;
                return rateOf(part, own + 1, other, line);
            case 3: return limitAbove(part, line);
            default: return limitBelow(part, line);
        }
    }

    public long mean(int part, int station, int what, int line) {
        if (!isClass(part) || !net.hasStation(station) || what < 0 || what > 2 || !isLine(line)) return NO;
        if (!tours.isSound()) return NO;
        int own = net.parts[part];
        if (own == 0) return what < 2 ? fraction(0, 1, line) : NO;
        long passes = tours.visitsOf(part, station) * states.rateAbove(part);
        if (what == 0) return fraction(passes, states.constantOfAll(), line);
        if (what == 2 && passes == 0) return NO;
        long number = states.numberAbove(part, station);
        // PASSES and NUMBER stand over the same CONSTANT, so WAIT needs it no more.
        return fraction(number, what == 1 ? states.constantOfAll() : passes, line);
    }

    public long busy(int station, int line) {
        if (!net.hasStation(station) || !isLine(line) || net.kinds[station] == WALK) return NO;
        if (!tours.isSound()) return NO;
        long above = states.busyAbove(station);
        return fraction(above, states.constantOfAll(), line);
    }

    public int narrow() {
        if (!tours.isSound()) return STATE;
        int narrowest = NONE;
        long greatest = 0;
        for (int station = 0; station < net.size; station++) {
            if (net.kinds[station] == WALK) continue;
            // BUSY of all STATIONS stands over the same CONSTANT.
            long above = states.busyAbove(station);
            if (narrowest == NONE || above > greatest) {
                narrowest = station;
                greatest = above;
            }
        }
        return narrowest;
    }

    public int swift(int part) {
        if (!isClass(part)) return BAD;
        if (!tours.isSound() || net.parts[part] == 0) return STATE;
        int swiftest = NONE;
        long bestAbove = 0;
        long bestBelow = 1;
        for (int station = 0; station < net.size; station++) {
            if (net.timeOf(part, station) < 2) continue;
            hasten(part, station);
            long above = states.rateAbove(part);
            long below = states.constantOfAll();
            if (swiftest == NONE || compareFractions(above, below, bestAbove, bestBelow) > 0) {
                swiftest = station;
                bestAbove = above;
                bestBelow = below;
            }
        }
        states.load(net, tours);
        return swiftest;
    }

    // ---- in truth

    public int begin() {
        if (!tours.isSound()) return STATE;
        truth.beginAtHomes(net);
        return truth.people;
    }

    public int turn(int n) {
        if (n < 1 || n > MOST_TURNS) return BAD;
        if (!truth.begun) return STATE;
        int left = 0;
        for (int i = 0; i < n; i++) {
            left += truth.turnOnce(net);
        }
        return left;
    }

    public int where(int one, int what) {
        if (what < 0 || what > 2) return BAD;
        if (one < 0 || one >= truth.people) return OUTSIDE;
        if (what == 0) return truth.places[one];
        if (what == 1) return truth.rests[one];
        return truth.aheadOf(one);
    }

    public int stands(int station, int i) {
        if (!net.hasStation(station)) return BAD;
        if (i < 0 || i >= truth.standing[station]) return NONE;
        return truth.rows[station * MOST_PARTS + i];
    }

    public int passed(int part, int station) {
        if (!isClass(part) || !net.hasStation(station)) return BAD;
        return truth.passes[part * MOST_STATIONS + station];
    }

    public long earned() {
        if (!fitsTimes(net.pays[0], homePasses(0)) || !fitsTimes(net.pays[1], homePasses(1))) return NO;
        long first = net.pays[0] * homePasses(0);
        long second = net.pays[1] * homePasses(1);
        long sum = first + second;
        boolean alike = (first < 0) == (second < 0);
        return alike && (sum < 0) != (first < 0) ? NO : sum;
    }

    public int seed(int v) {
        int before = truth.seed;
        truth.seed = v;
        return before;
    }

    public int image() {
        keptNet.takeFrom(net);
        imageKept = true;
        return net.size;
    }

    public int back() {
        if (!imageKept) return STATE;
        net.takeFrom(keptNet);
        netTold();
        return net.size;
    }

    public int count(int what) {
        switch (what) {
            case 0: return net.size;
            case 1: return net.parts[0] + net.parts[1];
            case 2: return net.countRoutes();
            case 3: return truth.people;
            case 4: return truth.turns;
            case 5: return tape.size;
            default: return BAD;
        }
    }

    // ---- the host

    public int sheet(int sheet, int sort, int n) {
        if (!isSheet(sheet) || sort != NONE && !isSort(sort)) return BAD;
        if (sort == NONE) {
            sheets[sheet].become(NONE, 0);
            return 1;
        }
        if (n > Sheet.ROOM) return BAD;
        if (n < 0) return BELOW_NOTHING;
        sheets[sheet].become(sort, n);
        return 1;
    }

    public int put(int sheet, int i, long v) {
        if (!isSheet(sheet)) return BAD;
        if (sheets[sheet].isMissing()) return MISSING;
        if (!sheets[sheet].hasItem(i)) return OUTSIDE;
        sheets[sheet].store(i, v);
        return 1;
    }

    public long item(int sheet, int i) {
        if (!isSheet(sheet) || sheets[sheet].isMissing() || !sheets[sheet].hasItem(i)) return NO;
        return sheets[sheet].items[i];
    }

    public int copy(int sheet, int i, int other, int j, int n) {
        if (!isSheet(sheet) || !isSheet(other)) return BAD;
        Sheet from = sheets[sheet];
        Sheet to = sheets[other];
        if (from.isMissing() || to.isMissing()) return MISSING;
        if (from.sort != to.sort) return UNLIKE;
        if (!from.hasRun(i, n) || !to.hasRun(j, n)) return OUTSIDE;
        System.arraycopy(from.items, i, to.items, j, n);
        return n;
    }

    public int lay(int sheet, int part, int station, int sort, int from) {
        if (!isSheet(sheet) || !isClass(part) || !net.hasStation(station) || !isSort(sort)) return BAD;
        Sheet row = sheets[sheet];
        if (!row.isMissing() && row.sort != sort) return UNLIKE;
        if (row.isMissing()) return MISSING;
        if (!row.hasRun(from, net.size)) return OUTSIDE;
        for (int to = 0; to < net.size; to++) {
            net.setWeight(part, station, to, (int) Math.abs(row.items[from + to] % 10));
        }
        netTold();
        return net.size;
    }

    // ---- what the calls share

    private static boolean isClass(int part) {
        return part >= 0 && part < CLASSES;
    }

    private static boolean isKind(int kind) {
        return kind >= LINE && kind <= WALK;
    }

    private static boolean isTime(int t) {
        return t >= 1 && t <= MOST_TIME;
    }

    private static boolean isByte(int v) {
        return v >= 0 && v <= 255;
    }

    private static boolean isLine(int line) {
        return line == 0 || line == 1;
    }

    private static boolean isSheet(int sheet) {
        return sheet >= 0 && sheet < SHEETS;
    }

    private static boolean isSort(int sort) {
        return sort >= LONGS && sort <= SHORTS;
    }

    private static int groupOf(int kind) {
        if (kind == LINE || kind == STACK) return 0;
        return kind == SHARE ? 1 : 2;
    }

    /** What ends that which is BEGUN is just what changes VISITS, DEMANDS and STATES, so all of them follow from here. */
    private void netTold() {
        truth.forget();
        tours.reckon(net, 0);
        tours.reckon(net, 1);
        states.load(net, tours);
    }

    private boolean obey(int place) {
        int a = tape.digitAt(place + 1);
        int b = tape.digitAt(place + 2);
        int c = tape.digitAt(place + 3);
        int d = tape.digitAt(place + 4);
        switch (tape.byteAt(place)) {
            case 's': return station(a, b, c) >= 0;
            case 'r': return route(a, b, c, d) >= 0;
            // A HOME that was NONE is no refusal.
            case 'h': return home(a, b) >= NONE;
            default: return parts(a, b) >= 0;
        }
    }

    /** Reads a SHEET into shown; false: it tells no STATE. */
    private boolean readState(Sheet row) {
        if (row.isMissing() || row.size != CLASSES * net.size) return false;
        for (int part = 0; part < CLASSES; part++) {
            int left = net.parts[part];
            for (int station = 0; station < net.size; station++) {
                long v = row.items[part * net.size + station];
                if (v < 0 || v > left) return false;
                if (v > 0 && tours.visitsOf(part, station) == 0) return false;
                shown[part * MOST_STATIONS + station] = (int) v;
                left -= (int) v;
            }
            if (left != 0) return false;
        }
        return true;
    }

    private long rateOf(int part, int own, int other, int line) {
        int n0 = part == 0 ? own : other;
        int n1 = part == 0 ? other : own;
        long below = states.constantOf(n0, n1, net.size);
        return fraction(states.oneLessAbove(part, n0, n1), below, line);
    }

    private long limitAbove(int part, int line) {
        long own = net.parts[part];
        long all = demandTogether(part, false) + demandTogether(part, true);
        long most = demandMost(part);
        // 1 over most is the lesser, if most times own is the greater.
        return most > 0 && most * own > all ? fraction(1, most, line) : fraction(own, all, line);
    }

    private long limitBelow(int part, int line) {
        long own = net.parts[part];
        return fraction(own, own * demandTogether(part, false) + demandTogether(part, true), line);
    }

    private long demandTogether(int part, boolean atWalks) {
        long sum = 0;
        for (int station = 0; station < net.size; station++) {
            if ((net.kinds[station] == WALK) == atWalks) sum += tours.demandOf(part, station);
        }
        return sum;
    }

    /** The greatest DEMAND at no WALK. */
    private long demandMost(int part) {
        long most = 0;
        for (int station = 0; station < net.size; station++) {
            if (net.kinds[station] != WALK) most = Math.max(most, tours.demandOf(part, station));
        }
        return most;
    }

    /** DEMANDS become as if TIME of a CLASS at a STATION were one less. */
    private void hasten(int part, int station) {
        states.load(net, tours);
        for (int each = 0; each < CLASSES; each++) {
            boolean also = each == part || net.kinds[station] == LINE;
            if (also) states.lessen(each, station, tours.visitsOf(each, station));
        }
    }

    private int homePasses(int part) {
        int home = net.homes[part];
        return net.hasStation(home) ? truth.passes[part * MOST_STATIONS + home] : 0;
    }

    private static boolean fitsTimes(long v, int often) {
        if (often <= 0) return true;
        return v <= GREATEST_LONG / often && v >= LEAST_LONG / often;
    }

    private static long commonDivisor(long a, long b) {
        long x = Math.abs(a);
        long y = Math.abs(b);
        for (int i = 0; i < 200 && y != 0; i++) {
            long rest = x % y;
            x = y;
            y = rest;
        }
        return x;
    }

    /** Above and below are 0 or more; the part of the fraction in lowest terms that is asked. */
    private static long fraction(long above, long below, int line) {
        long divisor = commonDivisor(above, below);
        if (below <= 0 || divisor <= 0) return NO;
        return line == 0 ? above / divisor : below / divisor;
    }

    /** Whole parts first, then what is left turned upside down: products would be too great for longs. */
    private static int compareFractions(long above, long below, long otherAbove, long otherBelow) {
        long a = above;
        long b = below;
        long c = otherAbove;
        long d = otherBelow;
        int sign = 1;
        for (int i = 0; i < 200 && b > 0 && d > 0; i++) {
            if (a / b != c / d) return a / b > c / d ? sign : -sign;
            long rest = a % b;
            long otherRest = c % d;
            if (rest == 0 || otherRest == 0) return sign * Long.compare(rest, otherRest);
            a = b;
            b = rest;
            c = d;
            d = otherRest;
            sign = -sign;
        }
        return 0;
    }

    private static long factorial(int n) {
        return n >= 0 && n < FACTORIALS.length ? FACTORIALS[n] : 0;
    }

    /** In how many ways k of n PARTS of a CLASS can be taken. */
    private static long choose(int n, int k) {
        if (n < 0 || n > MOST_OF_CLASS || k < 0 || k > n) return 0;
        return CHOICES[n * (MOST_OF_CLASS + 1) + k];
    }

    private static long power(long base, int exponent) {
        long product = 1;
        for (int i = 0; i < exponent; i++) {
            product *= base;
        }
        return product;
    }

    /** All that an IMAGE keeps. What is told of a CLASS at a STATION stands at CLASS times 5, and STATION. */
    private static final class Net {
        int size = 0;
        final int[] kinds = new int[MOST_STATIONS];
        final int[] times = new int[CLASSES * MOST_STATIONS];
        final int[] homes = new int[CLASSES];
        final int[] parts = new int[CLASSES];
        final int[] weights = new int[CLASSES * MOST_STATIONS * MOST_STATIONS];
        final long[] pays = new long[CLASSES];

        Net() {
            Arrays.fill(homes, NONE);
        }

        void takeFrom(Net other) {
            size = other.size;
            System.arraycopy(other.kinds, 0, kinds, 0, kinds.length);
            System.arraycopy(other.times, 0, times, 0, times.length);
            System.arraycopy(other.homes, 0, homes, 0, homes.length);
            System.arraycopy(other.parts, 0, parts, 0, parts.length);
            System.arraycopy(other.weights, 0, weights, 0, weights.length);
            System.arraycopy(other.pays, 0, pays, 0, pays.length);
        }

        boolean hasStation(int station) {
            return station >= 0 && station < size;
        }

        /** As it counts, not as it is kept. */
        int timeOf(int part, int station) {
            return kinds[station] == LINE ? times[station] : times[part * MOST_STATIONS + station];
        }

        int weightOf(int part, int from, int to) {
            return weights[(part * MOST_STATIONS + from) * MOST_STATIONS + to];
        }

        void setWeight(int part, int from, int to, int w) {
            weights[(part * MOST_STATIONS + from) * MOST_STATIONS + to] = w;
        }

        int weightsFrom(int part, int from) {
            int first = (part * MOST_STATIONS + from) * MOST_STATIONS;
            int sum = 0;
            for (int to = 0; to < size; to++) {
                sum += weights[first + to];
            }
            return sum;
        }

        /** The STATIONS to which ROUTES lead from one, as bits. */
        int ledTo(int part, int from) {
            int first = (part * MOST_STATIONS + from) * MOST_STATIONS;
            int bits = 0;
            for (int to = 0; to < size; to++) {
                if (weights[first + to] > 0) bits |= 1 << to;
            }
            return bits;
        }

        int countRoutes() {
            int above = 0;
            for (int i = 0; i < weights.length; i++) {
                if (weights[i] > 0) above++;
            }
            return above;
        }
    }

    /** Which STATIONS each CLASS REACHES, its VISITS and DEMANDS: reckoned anew whenever the net is told of. */
    private static final class Tours {
        private final boolean[] fit = {true, true};
        final int[] reached = new int[CLASSES];
        final boolean[] round = new boolean[CLASSES];
        private final long[] visitRow = new long[CLASSES * MOST_STATIONS];
        private final long[] demandRow = new long[CLASSES * MOST_STATIONS];
        private final int[] others = new int[MOST_STATIONS];
        private final long[] cells = new long[MOST_STATIONS * MOST_STATIONS];

        /** 0, too, for a CLASS that doesn't GO ROUND. */
        long visitsOf(int part, int station) {
            return visitRow[part * MOST_STATIONS + station];
        }

        long demandOf(int part, int station) {
            return demandRow[part * MOST_STATIONS + station];
        }

        void reckon(Net net, int part) {
            int first = part * MOST_STATIONS;
            reached[part] = findReached(net, part);
            round[part] = net.homes[part] != NONE && (reached[part] & ~findReturning(net, part)) == 0;
            long divisor = 0;
            for (int station = 0; station < net.size; station++) {
                boolean comes = round[part] && hasBit(reached[part], station);
                visitRow[first + station] = comes ? treesTo(net, part, station) * net.weightsFrom(part, station) : 0;
                divisor = commonDivisor(divisor, visitRow[first + station]);
            }
            long most = 0;
            for (int station = 0; station < net.size; station++) {
                if (divisor > 0) visitRow[first + station] /= divisor;
                demandRow[first + station] = visitRow[first + station] * net.timeOf(part, station);
                most = Math.max(most, demandRow[first + station]);
            }
            fit[part] = net.parts[part] == 0 || round[part] && most <= MOST_DEMAND;
        }

        boolean isSound() {
            return fit[0] && fit[1];
        }

        private static boolean hasBit(int bits, int station) {
            return (bits >> station & 1) == 1;
        }

        private static int findReached(Net net, int part) {
            int bits = net.homes[part] == NONE ? 0 : 1 << net.homes[part];
            for (int step = 0; step < net.size; step++) {
                for (int from = 0; from < net.size; from++) {
                    if (hasBit(bits, from)) bits |= net.ledTo(part, from);
                }
            }
            return bits;
        }

        /** Those from which one comes to HOME by one ROUTE or more. */
        private static int findReturning(Net net, int part) {
            int goal = net.homes[part] == NONE ? 0 : 1 << net.homes[part];
            int bits = 0;
            for (int step = 0; step < net.size; step++) {
                for (int from = 0; from < net.size; from++) {
                    if ((net.ledTo(part, from) & (goal | bits)) != 0) bits |= 1 << from;
                }
            }
            return bits;
        }

        /**
         * The weights of all trees of ROUTES that lead to root, together: times the weights from there they are
         * in proportion to VISITS (the theorem of trees of a chain), and they are whole.
         */
        private long treesTo(Net net, int part, int root) {
            int n = 0;
            for (int station = 0; station < net.size; station++) {
                if (station != root && hasBit(reached[part], station)) {
                    others[n] = station;
                    n++;
                }
            }
            for (int row = 0; row < n; row++) {
                for (int column = 0; column < n; column++) {
                    cells[row * MOST_STATIONS + column] = -net.weightOf(part, others[row], others[column]);
                }
                cells[row * MOST_STATIONS + row] += net.weightsFrom(part, others[row]);
            }
            return determinant(n);
        }

        /** Of the first n rows of cells, each division without rest; no pivot is 0 as all come to root. */
        private long determinant(int n) {
            long before = 1;
            for (int k = 0; k < n; k++) {
                long pivot = cells[k * MOST_STATIONS + k];
                if (pivot == 0) return 0;
                for (int row = k + 1; row < n; row++) {
                    for (int column = k + 1; column < n; column++) {
                        int here = row * MOST_STATIONS + column;
                        long cross = cells[row * MOST_STATIONS + k] * cells[k * MOST_STATIONS + column];
                        cells[here] = (cells[here] * pivot - cross) / before;
                    }
                }
                before = pivot;
            }
            return before;
        }
    }

    /**
     * WEIGHTS and CONSTANTS of a SOUND net. All are kept times the factorials of how many PARTS there are of each
     * CLASS: these are whole and, even with 8 PARTS and DEMANDS of 20 everywhere, below 6e17.
     */
    private static final class States {
        private static final int SIDE = MOST_OF_CLASS + 1;
        private int size = 0;
        private int all0 = 0;
        private int all1 = 0;
        private boolean likeliestKnown = false;
        private long greatest = 0;
        private final boolean[] walks = new boolean[MOST_STATIONS];
        private final long[] demands = new long[CLASSES * MOST_STATIONS];
        private final long[] constants = new long[SIDE * SIDE];
        private final long[] factors = new long[SIDE * SIDE];
        private final int[] tried = new int[CLASSES * MOST_STATIONS];
        private final int[] likeliest = new int[CLASSES * MOST_STATIONS];

        void load(Net net, Tours tours) {
            size = net.size;
            all0 = net.parts[0];
            all1 = net.parts[1];
            likeliestKnown = false;
            for (int station = 0; station < size; station++) {
                walks[station] = net.kinds[station] == WALK;
                // A CLASS without PARTS may have DEMANDS beyond all bounds, and none of them counts.
                demands[station] = all0 > 0 ? tours.demandOf(0, station) : 0;
                demands[MOST_STATIONS + station] = all1 > 0 ? tours.demandOf(1, station) : 0;
            }
        }

        void lessen(int part, int station, long by) {
            long now = demands[part * MOST_STATIONS + station];
            demands[part * MOST_STATIONS + station] = Math.max(now - by, 0);
        }

        long constantOf(int n0, int n1, int m) {
            fillConstants(n0, n1, m, NONE);
            return constants[n0 * SIDE + n1];
        }

        long constantOfAll() {
            return constantOf(all0, all1, size);
        }

        /** What stands above the line of RATE, if CONSTANT of all stands below. */
        long rateAbove(int part) {
            fillConstants(all0, all1, size, NONE);
            return oneLessAbove(part, all0, all1);
        }

        /** As constants are filled now: CONSTANT with one PART less, times the factorials of n0 and n1. */
        long oneLessAbove(int part, int n0, int n1) {
            if (part == 0) return n0 > 0 ? n0 * constants[(n0 - 1) * SIDE + n1] : 0;
            return n1 > 0 ? n1 * constants[n0 * SIDE + n1 - 1] : 0;
        }

        long busyAbove(int station) {
            fillConstants(all0, all1, size, NONE);
            long first = demands[station] * oneLessAbove(0, all0, all1);
            return first + demands[MOST_STATIONS + station] * oneLessAbove(1, all0, all1);
        }

        long numberAbove(int part, int station) {
            fillConstants(all0, all1, size, station);
            fillFactors(station, all0, all1);
            long sum = 0;
            for (int a = 0; a <= all0; a++) {
                for (int b = 0; b <= all1; b++) {
                    sum += (part == 0 ? a : b) * waysTimes(all0, all1, a, b);
                }
            }
            return sum;
        }

        long weightOf(int[] state) {
            int left0 = all0;
            int left1 = all1;
            long product = 1;
            for (int station = 0; station < size; station++) {
                int a = state[station];
                int b = state[MOST_STATIONS + station];
                product *= choose(left0, a) * choose(left1, b) * factorOf(station, a, b);
                left0 -= a;
                left1 -= b;
            }
            return product;
        }

        int likeliestAt(int part, int station) {
            if (!likeliestKnown) {
                greatest = 0;
                Arrays.fill(likeliest, 0);
                tryPlace(this, 0, all0, all1, 1);
                likeliestKnown = true;
            }
            return likeliest[part * MOST_STATIONS + station];
        }

        /** STATES come in the order in which they are preferred, so only a greater WEIGHT takes the place. Depth: 10 places. */
        private static void tryPlace(States all, int place, int left0, int left1, long weight) {
            if (place >= CLASSES * all.size) {
                if (left0 == 0 && left1 == 0) all.takeIfGreater(weight);
                return;
            }
            boolean second = place >= all.size;
            int station = second ? place - all.size : place;
            int at = (second ? MOST_STATIONS : 0) + station;
            int left = second ? left1 : left0;
            int least = station == all.size - 1 ? left : 0;
            for (int n = left; n >= least; n--) {
                long product = weight * choose(left, n) * power(all.demands[at], n);
                if (second && !all.walks[station]) product *= factorial(all.tried[station] + n);
                if (product == 0) continue;
                all.tried[at] = n;
                tryPlace(all, place + 1, second ? left0 : left0 - n, second ? left1 - n : left1, product);
            }
        }

        private void takeIfGreater(long weight) {
            if (weight <= greatest) return;
            greatest = weight;
            System.arraycopy(tried, 0, likeliest, 0, likeliest.length);
        }

        /** CONSTANTS of the first m STATIONS without one of them, for all up to n0 and n1: one STATION after another is added. */
        private void fillConstants(int n0, int n1, int m, int without) {
            Arrays.fill(constants, 0);
            constants[0] = 1;
            for (int station = 0; station < m; station++) {
                if (station == without) continue;
                fillFactors(station, n0, n1);
                addStation(n0, n1);
            }
        }

        /** From above down: what a place needs of those below it is still as it was before. */
        private void addStation(int n0, int n1) {
            for (int x = n0; x >= 0; x--) {
                for (int y = n1; y >= 0; y--) {
                    long sum = 0;
                    for (int a = 0; a <= x; a++) {
                        for (int b = 0; b <= y; b++) {
                            sum += waysTimes(x, y, a, b);
                        }
                    }
                    constants[x * SIDE + y] = sum;
                }
            }
        }

        /** WEIGHTS of all STATES of x and y PARTS with a and b at the STATION whose factors are filled, together. */
        private long waysTimes(int x, int y, int a, int b) {
            long rest = constants[(x - a) * SIDE + y - b];
            if (rest == 0) return 0;
            return choose(x, a) * choose(y, b) * factors[a * SIDE + b] * rest;
        }

        private void fillFactors(int station, int n0, int n1) {
            for (int a = 0; a <= n0; a++) {
                for (int b = 0; b <= n1; b++) {
                    factors[a * SIDE + b] = factorOf(station, a, b);
                }
            }
        }

        /** WEIGHT at a STATION, but for the factorials below the line. */
        private long factorOf(int station, int a, int b) {
            long product = power(demands[station], a) * power(demands[MOST_STATIONS + station], b);
            return walks[station] ? product : product * factorial(a + b);
        }
    }

    /** PARTS that truly go round. */
    private static final class Truth {
        boolean begun = false;
        int people = 0;
        private int ofClass0 = 0;
        int turns = 0;
        int seed = 1;
        private int leftNow = 0;
        final int[] rows = new int[MOST_STATIONS * MOST_PARTS];
        final int[] standing = new int[MOST_STATIONS];
        final int[] places = new int[MOST_PARTS];
        final int[] rests = new int[MOST_PARTS];
        final int[] passes = new int[CLASSES * MOST_STATIONS];
        private final int[] leavers = new int[MOST_PARTS];

        void forget() {
            begun = false;
            people = 0;
            turns = 0;
            Arrays.fill(standing, 0);
            Arrays.fill(passes, 0);
        }

        void beginAtHomes(Net net) {
            forget();
            begun = true;
            ofClass0 = net.parts[0];
            for (int part = 0; part < CLASSES; part++) {
                for (int i = 0; i < net.parts[part] && people < MOST_PARTS; i++) {
                    people++;
                    arrive(net, people - 1, net.homes[part]);
                }
            }
        }

        /** How many left STATIONS in it. */
        int turnOnce(Net net) {
            leftNow = 0;
            for (int station = 0; station < net.size; station++) {
                serve(station, net.kinds[station]);
            }
            for (int i = 0; i < leftNow; i++) {
                arrive(net, leavers[i], drawGoal(net, leavers[i]));
            }
            turns++;
            return leftNow;
        }

        int aheadOf(int one) {
            int station = places[one];
            for (int i = 0; i < standing[station]; i++) {
                if (rows[station * MOST_PARTS + i] == one) return i;
            }
            return 0;
        }

        private int classOf(int one) {
            return one < ofClass0 ? 0 : 1;
        }

        private void arrive(Net net, int one, int station) {
            if (!net.hasStation(station)) return;
            standLast(one, station);
            places[one] = station;
            rests[one] = net.timeOf(classOf(one), station);
        }

        private void standLast(int one, int station) {
            if (standing[station] >= MOST_PARTS) return;
            rows[station * MOST_PARTS + standing[station]] = one;
            standing[station]++;
        }

        private void serve(int station, int kind) {
            int n = standing[station];
            if (n == 0) return;
            switch (kind) {
                case LINE:
                    work(station, 0);
                    break;
                case STACK:
                    work(station, n - 1);
                    break;
                case SHARE:
                    int first = rows[station * MOST_PARTS];
                    if (!work(station, 0)) {
                        takeOut(station, 0);
                        standLast(first, station);
                    }
                    break;
                default:
                    int i = 0;
                    for (int k = 0; k < n; k++) {
                        if (!work(station, i)) i++;
                    }
            }
        }

        /** Whether the i-th there leaves by this. */
        private boolean work(int station, int i) {
            int one = rows[station * MOST_PARTS + i];
            rests[one]--;
            if (rests[one] > 0) return false;
            takeOut(station, i);
            passes[classOf(one) * MOST_STATIONS + station]++;
            leavers[leftNow] = one;
            leftNow++;
            return true;
        }

        private void takeOut(int station, int i) {
            int first = station * MOST_PARTS;
            for (int k = i + 1; k < standing[station]; k++) {
                rows[first + k - 1] = rows[first + k];
            }
            standing[station]--;
        }

        private int drawGoal(Net net, int one) {
            int part = classOf(one);
            int from = places[one];
            int drawn = draw(net.weightsFrom(part, from));
            int together = 0;
            for (int to = 0; to < net.size; to++) {
                together += net.weightOf(part, from, to);
                if (together > drawn) return to;
            }
            return from;
        }

        private int draw(int n) {
            seed = seed * 1103515245 + 12345;
            return n > 0 ? (seed >>> 16) % n : 0;
        }
    }

    /** THE TAPE: bytes that are read as CLAUSES. */
    private static final class Tape {
        static final int ROOM = 60;
        int size = 0;
        private final int[] bytes = new int[ROOM];

        boolean hasRoom(int n) {
            return size + n <= ROOM;
        }

        void append(int v) {
            if (size >= ROOM) return;
            bytes[size] = v;
            size++;
        }

        /** NONE: THE TAPE ends before. */
        int byteAt(int place) {
            return place >= 0 && place < size ? bytes[place] : NONE;
        }

        int digitAt(int place) {
            return byteAt(place) - '0';
        }

        /** Of a CLAUSE that begins with a letter; 0: none begins so. */
        static int clauseSize(int letter) {
            switch (letter) {
                case 's': return 4;
                case 'r': return 5;
                case 'h': return 3;
                case 'n': return 3;
                default: return 0;
            }
        }

        /** NONE: all is well. */
        int faultPlace() {
            int clauseEnd = 0;
            for (int place = 0; place < size; place++) {
                int v = bytes[place];
                boolean stands;
                if (place == clauseEnd && place > 0) {
                    stands = v == ';';
                } else if (place == 0 || place == clauseEnd + 1) {
                    stands = clauseSize(v) > 0;
                    clauseEnd = place + clauseSize(v);
                } else {
                    stands = v >= '0' && v <= '9';
                }
                if (!stands) return place;
            }
            return clauseEnd == size && size > 0 ? NONE : size;
        }
    }

    /** A row of numbers of a sort, or missing (its sort is NONE then). */
    private static final class Sheet {
        static final int ROOM = 40;
        int sort = NONE;
        int size = 0;
        final long[] items = new long[ROOM];

        void become(int newSort, int n) {
            sort = newSort;
            size = n;
            Arrays.fill(items, 0);
        }

        boolean isMissing() {
            return sort == NONE;
        }

        boolean hasItem(int i) {
            return i >= 0 && i < size;
        }

        boolean hasRun(int i, int n) {
            return i >= 0 && n >= 0 && i <= size - n;
        }

        void store(int i, long v) {
            if (sort == INTS) {
                items[i] = (int) v;
            } else if (sort == SHORTS) {
                items[i] = (short) v;
            } else {
                items[i] = v;
            }
        }
    }
}
