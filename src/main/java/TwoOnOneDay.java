import java.util.Arrays;

/**
 * Two on one day: a YEAR, up to seven PEOPLE who are each born on a DAY by weights of their own, and
 * how likely two of them have one DAY. What each call answers is told in ../shared/DOC.md.
 */
public final class TwoOnOneDay {
    public static final int NONE = -1, BAD = -2, STATE = -3, FULL = -4;
    public static final long NO = -4611686018427387904L;

    private static final int NO_SUCH_ONE = -5, NOT_TOLD = -7;
    private static final int MISSING = -11, OUTSIDE = -12, UNLIKE = -13, BELOW_NOTHING = -14;
    private static final int FAULTS = -100;
    private static final int FINE = 0;

    private static final int MOST_DAYS = 24, MOST_PEOPLE = 7, MOST_SETS = 128;
    private static final int MOST_BORN = 9, MOST_MORE = 9, MOST_WEIGHT = 9, MOST_MONEY = 40;
    private static final int MOST_TEXTS = 6, MOST_BYTES = 160, MOST_OPEN = 5;
    private static final int MOST_SHEETS = 4, MOST_NUMBERS = 40;
    private static final int MOST_PAIRS = 21, LAST_SEED = 99999, MOST_SEEDS = 50;

    private static final int PERSON = 0, SPRING = 1, TOLD = 2, LATE = 3, NEARLY = 4, SHY = 5, KINDS = 6;
    /** What may be taken beside KINDS. */
    private static final int DAY = 6;
    private static final int WEIGHS = 0, PAYS = 1, ASKS = 2;
    private static final int BYTES = 0, SHORTS = 1, INTS = 2;

    private final Year year;
    private final People people;
    private final Tape tape;
    private final Reader reader;
    private final Laws book;
    private final Weights weights;
    private final Ways ways;
    private final Sheet[] sheets;
    private final Image kept;

    public TwoOnOneDay() {
        year = new Year();
        people = new People();
        tape = new Tape();
        reader = new Reader(tape);
        book = new Laws(year, people);
        weights = new Weights(year, people, book);
        ways = new Ways(weights);
        sheets = new Sheet[MOST_SHEETS];
        for (int s = 0; s < sheets.length; s++) {
            sheets[s] = new Sheet();
        }
        kept = new Image();
    }

    // ---- the year, the law

    public int set(int what, int of, int v) {
        if (what != 0 && what != 1) {
            return NONE;
        }
        return what == 0 ? lengthen(v) : bear(of, v);
    }

    private int lengthen(int v) {
        if (v < 1 || v > MOST_DAYS) {
            return BAD;
        }
        if (people.latestTold() >= v) {
            return STATE;
        }
        int was = year.days;
        year.days = v;
        weights.forget();
        return was;
    }

    private int bear(int d, int v) {
        if (!year.has(d) || v < 0 || v > MOST_BORN) {
            return BAD;
        }
        int was = year.born[d];
        year.born[d] = v;
        weights.forget();
        return was;
    }

    public int count(int what) {
        switch (what) {
            case 0: return people.number;
            case 1: return year.days;
            case 2: return book.number;
            case 3: return book.law;
            case 4: return tape.size;
            default: return BAD;
        }
    }

    public int bornOn(int d) {
        return year.has(d) ? year.born[d] : BAD;
    }

    public int feed(int n, int a, int b, int c, int d, int e) {
        if (n < 1 || n > 5 || !isByte(a) || !isByte(b) || !isByte(c) || !isByte(d) || !isByte(e)) {
            return BAD;
        }
        if (tape.size + n > MOST_BYTES) {
            return FULL;
        }
        for (int i = 0; i < n; i++) {
            tape.add(i == 0 ? a : i == 1 ? b : i == 2 ? c : i == 3 ? d : e);
        }
        return tape.size;
    }

    private static boolean isByte(int v) {
        return v >= 0 && v <= 255;
    }

    public int text() {
        if (book.number >= MOST_TEXTS) {
            return FULL;
        }
        Text made = reader.readAll();
        tape.size = 0;
        if (made == null) {
            return FAULTS - reader.fault;
        }
        return book.add(made);
    }

    public int force(int t) {
        if (!book.has(t)) {
            return BAD;
        }
        int was = book.law;
        book.law = t;
        weights.forget();
        return was;
    }

    public int asks(int part, int p, int d) {
        if (part < WEIGHS || part > ASKS || !people.has(p) || !year.has(d)) {
            return BAD;
        }
        return book.says(book.law, part, p, people.told[p], d);
    }

    // ---- people

    public int person(int kind, int more, int d) {
        return join(kind, more, d);
    }

    private int join(int kind, int more, int d) {
        if (!People.isKind(kind) || more < 0 || more > MOST_MORE || !year.has(d)) {
            return BAD;
        }
        if (people.number >= MOST_PEOPLE) {
            return FULL;
        }
        int p = people.add(kind, more, d);
        weights.forgetOne(p);
        return p;
    }

    public int move(int p, int d) {
        if (!people.has(p)) {
            return NO_SUCH_ONE;
        }
        if (!year.has(d)) {
            return NOT_TOLD;
        }
        int was = people.told[p];
        people.told[p] = d;
        weights.forgetOne(p);
        return was;
    }

    public int told(int p, int what) {
        if (!people.has(p)) {
            return NO_SUCH_ONE;
        }
        switch (what) {
            case 0: return people.kind[p];
            case 1: return people.more[p];
            case 2: return people.told[p];
            case 3: return people.doubts(p);
            case 4: return totalOf(p);
            default: return NOT_TOLD;
        }
    }

    private int totalOf(int p) {
        weights.prepare();
        return weights.total(p);
    }

    public int weight(int p, int d) {
        if (!people.has(p) || !year.has(d)) {
            return BAD;
        }
        weights.prepare();
        return weights.of(p, d);
    }

    // ---- how likely

    public long meets(int many, int part) {
        if (many < 1 || many > MOST_PEOPLE) {
            return NO;
        }
        ways.prepare();
        return fraction(ways.together(many), ways.ofAll(), part);
    }

    public long among(int set, int part) {
        if (!people.hasSet(set)) {
            return NO;
        }
        ways.prepare();
        return fraction(ways.meeting(set), ways.of(set), part);
    }

    public long mine(int d, int part) {
        if (!year.has(d)) {
            return NO;
        }
        ways.prepare();
        return fraction(ways.taking(d), ways.ofAll(), part);
    }

    public int likeliest() {
        ways.prepare();
        int best = 0;
        long most = 0;
        for (int d = 0; d < year.days; d++) {
            long those = ways.taking(d);
            if (those > most) {
                best = d;
                most = those;
            }
        }
        return best;
    }

    public long many(int sort, int n, int part) {
        if (!isCounted(sort) || n < 0 || n > MOST_PAIRS) {
            return NO;
        }
        ways.prepare();
        return fraction(ways.numbering(sort, n), ways.ofAll(), part);
    }

    private static boolean isCounted(int sort) {
        return sort == Spread.PAIRS || sort == Spread.DAYS_TAKEN;
    }

    public int likely(int sort) {
        if (!isCounted(sort)) {
            return BAD;
        }
        ways.prepare();
        int best = 0;
        long most = 0;
        for (int n = 0; n <= MOST_PAIRS; n++) {
            long those = ways.numbering(sort, n);
            if (those > most) {
                best = n;
                most = those;
            }
        }
        return best;
    }

    public long mean(int sort, int part) {
        if (!isCounted(sort)) {
            return NO;
        }
        ways.prepare();
        long sum = 0;
        for (int n = 1; n <= MOST_PAIRS; n++) {
            sum += n * ways.numbering(sort, n);
        }
        return fraction(sum, ways.ofAll(), part);
    }

    public long covers(int set, int part) {
        if (set < 0 || set >= 1 << year.days) {
            return NO;
        }
        ways.prepare();
        return fraction(ways.covering(set), ways.ofAll(), part);
    }

    public long near(int days, int part) {
        if (days < 0 || days > MOST_DAYS) {
            return NO;
        }
        ways.prepare();
        return fraction(ways.ofAll() - ways.scattered(days), ways.ofAll(), part);
    }

    // ---- one by one

    public int needs(int hundredth) {
        if (!isHundredth(hundredth)) {
            return BAD;
        }
        ways.prepare();
        for (int n = 1; n <= people.number; n++) {
            if (isAsLikely(People.firstOnes(n), hundredth)) {
                return n;
            }
        }
        return NONE;
    }

    private static boolean isHundredth(int hundredth) {
        return hundredth >= 1 && hundredth <= 100;
    }

    private boolean isAsLikely(int set, int hundredth) {
        return ways.of(set) > 0 && 100 * ways.meeting(set) >= hundredth * ways.of(set);
    }

    public long first(int p, int part) {
        if (!people.has(p)) {
            return NO;
        }
        ways.prepare();
        return fraction(ways.firstMeeting(p), ways.of(People.firstOnes(p + 1)), part);
    }

    public int place() {
        ways.prepare();
        int best = NONE;
        long above = 0;
        long below = 1;
        for (int p = 0; p < people.number; p++) {
            long those = ways.firstMeeting(p);
            long all = ways.of(People.firstOnes(p + 1));
            if (all > 0 && compareFractions(those, all, above, below) > 0) {
                best = p;
                above = those;
                below = all;
            }
        }
        return best;
    }

    public long asked(int part) {
        ways.prepare();
        // one more is asked wherever those before are still apart: so many times each WAY counts
        long sum = 0;
        for (int p = 0; p < people.number; p++) {
            int before = People.firstOnes(p);
            sum += ways.apart(before) * ways.of(people.everyone() ^ before);
        }
        return fraction(sum, ways.ofAll(), part);
    }

    // ---- whom to ask

    public long host(int many, int what) {
        if (many < 1 || many > MOST_PEOPLE || what < 0 || what > 2) {
            return NO;
        }
        ways.prepare();
        int best = likeliestGuests(many);
        if (what == 0) {
            return best;
        }
        return best < 0 ? NO : fraction(ways.meeting(best), ways.of(best), what - 1);
    }

    private int likeliestGuests(int many) {
        int best = NONE;
        for (int set = 1; set <= people.everyone(); set++) {
            if (Integer.bitCount(set) != many || !canBeGuests(set)) {
                continue;
            }
            if (best < 0 || compareFractions(ways.meeting(set), ways.of(set), ways.meeting(best), ways.of(best)) > 0) {
                best = set;
            }
        }
        return best;
    }

    private boolean canBeGuests(int set) {
        return people.allCome(set) && ways.of(set) > 0;
    }

    public int cheap(int hundredth, int what) {
        if (!isHundredth(hundredth) || what < 0 || what > 1) {
            return BAD;
        }
        ways.prepare();
        int best = NONE;
        int least = NONE;
        for (int set = 1; set <= people.everyone(); set++) {
            if (!canBeGuests(set) || !isAsLikely(set, hundredth)) {
                continue;
            }
            int price = book.saysOfSet(ASKS, set);
            if (best < 0 || price < least) {
                best = set;
                least = price;
            }
        }
        return what == 0 ? best : least;
    }

    public long wager(int set, int part) {
        if (!people.hasSet(set)) {
            return NO;
        }
        ways.prepare();
        long won = book.saysOfSet(PAYS, set) * ways.meeting(set);
        long spent = book.saysOfSet(ASKS, set) * ways.of(set);
        return fraction(won - spent, ways.of(set), part);
    }

    // ---- told lists

    /** Why a SHEET can't tell the DAY of each, or FINE. */
    private int refusalOfList(int s) {
        int refusal = refusalOfSheet(s);
        if (refusal != FINE) {
            return refusal;
        }
        if (sheets[s].size != people.number) {
            return BAD;
        }
        for (int p = 0; p < people.number; p++) {
            if (!year.has(sheets[s].numbers[p])) {
                return BAD;
            }
        }
        return FINE;
    }

    public int judge(int s) {
        int refusal = refusalOfList(s);
        return refusal != FINE ? refusal : firstWrong(sheets[s].numbers, book.law);
    }

    private int firstWrong(int[] days, int law) {
        for (int p = 0; p < people.number; p++) {
            if (weights.under(law, p, people.kind[p], people.told[p], days[p]) == 0) {
                return p;
            }
        }
        return NONE;
    }

    public int list(int s, int what) {
        int refusal = refusalOfList(s);
        if (refusal != FINE) {
            return refusal;
        }
        int[] days = sheets[s].numbers;
        switch (what) {
            case 0: return firstSecond(days);
            case 1: return pairsOf(days);
            case 2: return daysOf(days);
            case 3: return doubtsOf(days);
            default: return BAD;
        }
    }

    private int firstSecond(int[] days) {
        int had = 0;
        for (int p = 0; p < people.number; p++) {
            if ((had >> days[p] & 1) != 0) {
                return p;
            }
            had |= 1 << days[p];
        }
        return NONE;
    }

    private int pairsOf(int[] days) {
        int pairs = 0;
        for (int p = 0; p < people.number; p++) {
            for (int q = 0; q < p; q++) {
                if (days[p] == days[q]) {
                    pairs++;
                }
            }
        }
        return pairs;
    }

    private int daysOf(int[] days) {
        int had = 0;
        for (int p = 0; p < people.number; p++) {
            had |= 1 << days[p];
        }
        return had;
    }

    private int doubtsOf(int[] days) {
        weights.prepare();
        int doubts = 0;
        for (int p = 0; p < people.number; p++) {
            if (weights.of(p, days[p]) == 0) {
                doubts += people.doubts(p);
            }
        }
        return doubts;
    }

    public long comes(int s, int part) {
        if (refusalOfList(s) != FINE) {
            return NO;
        }
        ways.prepare();
        long those = 1;
        for (int p = 0; p < people.number; p++) {
            those *= weights.of(p, sheets[s].numbers[p]);
        }
        return fraction(those, ways.ofAll(), part);
    }

    public long luck(int s, int part) {
        if (refusalOfList(s) != FINE) {
            return NO;
        }
        ways.prepare();
        int most = Integer.bitCount(daysOf(sheets[s].numbers));
        long those = 0;
        for (int n = 0; n <= most; n++) {
            those += ways.numbering(Spread.DAYS_TAKEN, n);
        }
        return fraction(those, ways.ofAll(), part);
    }

    public int laws(int s) {
        int refusal = refusalOfList(s);
        if (refusal != FINE) {
            return refusal;
        }
        int bits = 0;
        for (int t = 0; t < book.number; t++) {
            if (firstWrong(sheets[s].numbers, t) < 0) {
                bits |= 1 << t;
            }
        }
        return bits;
    }

    public int can(int s, int p, int sort) {
        int refusal = refusalOfList(s);
        if (refusal != FINE) {
            return refusal;
        }
        if (!people.has(p)) {
            return NO_SUCH_ONE;
        }
        if (sort != 0 && sort != 1) {
            return NOT_TOLD;
        }
        int d = sheets[s].numbers[p];
        return sort == 0 ? toldDaysFor(p, d) : kindsFor(p, d);
    }

    private int toldDaysFor(int p, int d) {
        int bits = 0;
        for (int told = 0; told < year.days; told++) {
            if (weights.under(book.law, p, people.kind[p], told, d) > 0) {
                bits |= 1 << told;
            }
        }
        return bits;
    }

    private int kindsFor(int p, int d) {
        int bits = 0;
        for (int kind = 0; kind < KINDS; kind++) {
            if (weights.under(book.law, p, kind, people.told[p], d) > 0) {
                bits |= 1 << kind;
            }
        }
        return bits;
    }

    // ---- lists by lot

    private static boolean isSeed(int seed) {
        return seed >= 0 && seed <= LAST_SEED;
    }

    public int drawn(int seed, int p) {
        if (!people.has(p)) {
            return NO_SUCH_ONE;
        }
        if (!isSeed(seed)) {
            return NOT_TOLD;
        }
        weights.prepare();
        weights.draw(seed);
        return weights.drawn[p];
    }

    public int film(int s, int seed) {
        if (!isSheet(s) || !isSeed(seed)) {
            return BAD;
        }
        weights.prepare();
        weights.draw(seed);
        sheets[s].become(INTS, people.number);
        for (int p = 0; p < people.number; p++) {
            sheets[s].put(p, weights.drawn[p]);
        }
        return people.number;
    }

    public long odds(int seed, int seeds, int part) {
        if (!isSeed(seed) || seeds < 1 || seeds > MOST_SEEDS) {
            return NO;
        }
        weights.prepare();
        int met = 0;
        for (int i = 0; i < seeds; i++) {
            weights.draw(seed + i);
            if (weights.anyMeet()) {
                met++;
            }
        }
        return fraction(met, seeds, part);
    }

    public int image() {
        kept.keep(year, people, book);
        return people.number;
    }

    public int back() {
        if (!kept.isThere) {
            return STATE;
        }
        kept.bringBack(year, people, book);
        weights.forget();
        return people.number;
    }

    // ---- the host

    private static boolean isSheet(int s) {
        return s >= 0 && s < MOST_SHEETS;
    }

    private int refusalOfSheet(int s) {
        if (!isSheet(s)) {
            return BAD;
        }
        return sheets[s].isMissing() ? MISSING : FINE;
    }

    public int sheet(int s, int sort, int n) {
        if (!isSheet(s) || sort < Sheet.NO_SORT || sort > INTS) {
            return BAD;
        }
        if (sort == Sheet.NO_SORT) {
            sheets[s].become(sort, 0);
            return 1;
        }
        if (n > MOST_NUMBERS) {
            return BAD;
        }
        if (n < 0) {
            return BELOW_NOTHING;
        }
        sheets[s].become(sort, n);
        return 1;
    }

    public int cell(int s, int i, int v) {
        int refusal = refusalOfSheet(s);
        if (refusal != FINE) {
            return refusal;
        }
        if (i < 0 || i >= sheets[s].size) {
            return OUTSIDE;
        }
        sheets[s].put(i, v);
        return 1;
    }

    public int copy(int s, int i, int other, int j, int n) {
        if (!isSheet(s) || !isSheet(other)) {
            return BAD;
        }
        Sheet from = sheets[s];
        Sheet to = sheets[other];
        if (from.isMissing() || to.isMissing()) {
            return MISSING;
        }
        if (from.sort != to.sort) {
            return UNLIKE;
        }
        if (!from.hasRun(i, n) || !to.hasRun(j, n)) {
            return OUTSIDE;
        }
        System.arraycopy(from.numbers, i, to.numbers, j, n);
        return n;
    }

    public int peopleBy(int s, int sort, int at, int n) {
        if (!isSheet(s) || sort < BYTES || sort > INTS || n < 0 || n > MOST_PEOPLE) {
            return BAD;
        }
        Sheet from = sheets[s];
        if (from.isMissing()) {
            return MISSING;
        }
        if (from.sort != sort) {
            return UNLIKE;
        }
        int came = 0;
        for (int i = 0; i < n; i++) {
            int here = at + 3 * i;
            if (!from.hasRun(here, 3)) {
                return OUTSIDE;
            }
            if (join(from.numbers[here], from.numbers[here + 1], from.numbers[here + 2]) >= 0) {
                came++;
            }
        }
        return came;
    }

    public int taken(int i, int kind) {
        if (!People.isKind(kind) && kind != DAY) {
            return BAD;
        }
        if (i < 0 || i >= MOST_DAYS + MOST_PEOPLE) {
            return OUTSIDE;
        }
        return i < MOST_DAYS ? takenDay(i, kind) : takenPerson(i - MOST_DAYS, kind);
    }

    private int takenDay(int d, int kind) {
        if (!year.has(d) || year.born[d] == 0) {
            return MISSING;
        }
        return kind == DAY ? year.born[d] : UNLIKE;
    }

    private int takenPerson(int p, int kind) {
        if (!people.has(p)) {
            return MISSING;
        }
        return People.isA(people.kind[p], kind) ? p : UNLIKE;
    }

    // ---- fractions

    /** What stands above or below the line in lowest terms. */
    private static long fraction(long above, long below, int part) {
        if (below <= 0 || (part != 0 && part != 1)) {
            return NO;
        }
        long common = commonDivisor(Math.abs(above), below);
        if (common <= 0) {
            return NO;
        }
        return part == 0 ? above / common : below / common;
    }

    private static long commonDivisor(long a, long b) {
        // Euclid's steps on two longs are under a hundred
        for (int step = 0; step < 200 && b != 0; step++) {
            long rest = a % b;
            a = b;
            b = rest;
        }
        return a;
    }

    /**
     * Above 0 if a / b is more than c / d, below 0 if less (all 0 or above, b and d above 0). By continued
     * fractions, since the products a * d and c * b may pass what a long holds.
     */
    private static int compareFractions(long a, long b, long c, long d) {
        int side = 1;
        for (int step = 0; step < 200 && b > 0 && d > 0; step++) {
            if (a / b != c / d) {
                return side * Long.compare(a / b, c / d);
            }
            long restA = a % b;
            long restC = c % d;
            a = b;
            c = d;
            b = restA;
            d = restC;
            side = -side;
        }
        // turned over, what has 0 below the line is endless
        return side * Integer.compare(b == 0 ? 1 : 0, d == 0 ? 1 : 0);
    }

    // ---- what the face stands on

    private static final class Year {
        int days;
        final int[] born;

        Year() {
            days = 12;
            born = new int[MOST_DAYS];
        }

        boolean has(int d) {
            return d >= 0 && d < days;
        }
    }

    /** All PEOPLE, and what is known of KINDS. */
    private static final class People {
        int number;
        final int[] kind;
        final int[] more;
        final int[] told;

        People() {
            kind = new int[MOST_PEOPLE];
            more = new int[MOST_PEOPLE];
            told = new int[MOST_PEOPLE];
        }

        boolean has(int p) {
            return p >= 0 && p < number;
        }

        /** The caller has seen that there is room. */
        int add(int ofKind, int ofMore, int ofTold) {
            int p = number;
            if (p < MOST_PEOPLE) {
                kind[p] = ofKind;
                more[p] = ofMore;
                told[p] = ofTold;
                number++;
            }
            return p;
        }

        int latestTold() {
            int latest = -1;
            for (int p = 0; p < number; p++) {
                latest = Math.max(latest, told[p]);
            }
            return latest;
        }

        static int firstOnes(int n) {
            return (1 << n) - 1;
        }

        int everyone() {
            return firstOnes(number);
        }

        boolean hasSet(int set) {
            return set >= 0 && set <= everyone();
        }

        static boolean isKind(int k) {
            return k >= 0 && k < KINDS;
        }

        /** The KIND that one is besides its own (a PERSON: none). */
        static int kindAbove(int k) {
            switch (k) {
                case SPRING:
                case TOLD:
                case SHY: return PERSON;
                case LATE: return SPRING;
                case NEARLY: return TOLD;
                default: return -1;
            }
        }

        static boolean isA(int k, int other) {
            int at = k;
            for (int step = 0; step < KINDS && at >= 0; step++) {
                if (at == other) {
                    return true;
                }
                at = kindAbove(at);
            }
            return false;
        }

        int doubts(int p) {
            switch (kind[p]) {
                case TOLD: return 1 + more[p];
                case NEARLY: return 2 * (1 + more[p]);
                default: return 1;
            }
        }

        boolean comesAlong(int p, int others) {
            switch (kind[p]) {
                case LATE: return others <= more[p];
                case SHY: return others <= more[p] / 3;
                default: return true;
            }
        }

        boolean allCome(int set) {
            int others = Integer.bitCount(set) - 1;
            for (int p = 0; p < number; p++) {
                if ((set >> p & 1) != 0 && !comesAlong(p, others)) {
                    return false;
                }
            }
            return true;
        }
    }

    /** THE TAPE, and its TOKENS one behind the other. */
    private static final class Tape {
        // signs are told by their bytes, so all else stands below 40
        static final int END = 0, WRONG = 1, NUMBER = 2, NAME = 3, KEY = 4;
        static final int OR = KEY + 3, AND = KEY + 4, NOT = KEY + 5;
        private static final int KEYS = 6, MOST_LETTERS = 6, MOST_DIGITS = 4;
        // KEYS, then NAMES in the order of Laws.says(), each filled up with blanks
        private static final String WORDS =
            "weighspays  asks  or    and   not   day   born  year  more  told  who   ";

        final int[] bytes;
        int size;
        int token;
        int value;
        int start;
        int end;

        Tape() {
            bytes = new int[MOST_BYTES];
        }

        void add(int b) {
            if (size < bytes.length) {
                bytes[size] = b;
                size++;
            }
        }

        void rewind() {
            end = 0;
            next();
        }

        void next() {
            while (end < size && isBlank(bytes[end])) {
                end++;
            }
            start = end;
            if (start >= size) {
                token = END;
            } else if (isLetter(bytes[start])) {
                readWord();
            } else if (isDigit(bytes[start])) {
                readNumber();
            } else {
                token = isSign(bytes[start]) ? bytes[start] : WRONG;
                end++;
            }
        }

        private void readWord() {
            while (end < size && isLetter(bytes[end])) {
                end++;
            }
            token = WRONG;
            for (int w = 0; w * MOST_LETTERS < WORDS.length(); w++) {
                if (isWord(w)) {
                    token = w < KEYS ? KEY + w : NAME;
                    value = w - KEYS;
                    return;
                }
            }
        }

        /** The WORD that was read is number w of WORDS. */
        private boolean isWord(int w) {
            int length = end - start;
            if (length > MOST_LETTERS) {
                return false;
            }
            for (int i = 0; i < MOST_LETTERS; i++) {
                int letter = i < length ? bytes[start + i] : ' ';
                if (letter != WORDS.charAt(w * MOST_LETTERS + i)) {
                    return false;
                }
            }
            return true;
        }

        private void readNumber() {
            value = 0;
            while (end < size && isDigit(bytes[end])) {
                value = value * 10 + bytes[end] - '0';
                end++;
            }
            token = end - start > MOST_DIGITS ? WRONG : NUMBER;
        }

        static boolean isBlank(int b) {
            return b == 32 || b == 10;
        }

        static boolean isLetter(int b) {
            return b >= 'a' && b <= 'z';
        }

        static boolean isDigit(int b) {
            return b >= '0' && b <= '9';
        }

        static boolean isSign(int b) {
            switch (b) {
                case '(':
                case ')':
                case ';':
                case '+':
                case '-':
                case '*':
                case '<':
                case '=': return true;
                default: return false;
            }
        }
    }

    /** Reads a TEXT, and writes what it says down so that what an operator joins stands ahead of it. */
    private static final class Reader {
        final Tape tape;
        final int[] code;
        final int[] ends;
        int length;
        int fault;

        Reader(Tape of) {
            tape = of;
            code = new int[MOST_BYTES];
            ends = new int[Text.PARTS + 1];
        }

        /** The TEXT; null, if there is a FAULT. */
        Text readAll() {
            length = 0;
            fault = -1;
            tape.rewind();
            for (int part = 0; part < Text.PARTS; part++) {
                take(Tape.KEY + part);
                any(0);
                take(';');
                ends[part + 1] = length;
            }
            if (tape.token != Tape.END) {
                fail();
            }
            return fault >= 0 ? null : new Text(code, ends);
        }

        /** The first FAULT counts; behind it every TOKEN is WRONG, so nothing more is read. */
        private void fail() {
            if (fault < 0) {
                fault = tape.start;
            }
            tape.token = Tape.WRONG;
        }

        private void take(int token) {
            if (tape.token == token) {
                tape.next();
            } else {
                fail();
            }
        }

        private void put(int op) {
            if (length < code.length) {
                code[length] = op;
                length++;
            }
        }

        /** E. Of it and all below, open tells how many ( , not and - are open. */
        private void any(int open) {
            all(open);
            for (int i = 0; i < MOST_BYTES && tape.token == Tape.OR; i++) {
                tape.next();
                all(open);
                put(Text.OR);
            }
        }

        /** AND. */
        private void all(int open) {
            oneSided(open);
            for (int i = 0; i < MOST_BYTES && tape.token == Tape.AND; i++) {
                tape.next();
                oneSided(open);
                put(Text.AND);
            }
        }

        /** NOT. */
        private void oneSided(int open) {
            if (tape.token != Tape.NOT) {
                compared(open);
            } else if (open >= MOST_OPEN) {
                fail();
            } else {
                tape.next();
                oneSided(open + 1);
                put(Text.NOT);
            }
        }

        private void compared(int open) {
            sum(open);
            int sign = tape.token;
            if (sign == '<' || sign == '=') {
                tape.next();
                sum(open);
                put(sign == '<' ? Text.LESS : Text.SAME);
            }
        }

        /** SUM. */
        private void sum(int open) {
            term(open);
            for (int i = 0; i < MOST_BYTES && (tape.token == '+' || tape.token == '-'); i++) {
                int sign = tape.token;
                tape.next();
                term(open);
                put(sign == '+' ? Text.PLUS : Text.MINUS);
            }
        }

        /** TERM. */
        private void term(int open) {
            one(open);
            for (int i = 0; i < MOST_BYTES && tape.token == '*'; i++) {
                tape.next();
                one(open);
                put(Text.TIMES);
            }
        }

        /** ONE. */
        private void one(int open) {
            int token = tape.token;
            if (token == Tape.NUMBER) {
                put(tape.value);
                tape.next();
            } else if (token == Tape.NAME) {
                put(Text.FIRST_NAME + tape.value);
                tape.next();
            } else if (token == '-' && open < MOST_OPEN) {
                tape.next();
                one(open + 1);
                put(Text.NEGATE);
            } else if (token == '(' && open < MOST_OPEN) {
                tape.next();
                any(open + 1);
                take(')');
            } else {
                fail();
            }
        }
    }

    private static final class Text {
        // what is below FIRST_NAME is a NUMBER itself
        static final int FIRST_NAME = 10000, FIRST_OP = 10010;
        static final int NEGATE = FIRST_OP, NOT = FIRST_OP + 1;
        static final int OR = FIRST_OP + 2, AND = FIRST_OP + 3, LESS = FIRST_OP + 4, SAME = FIRST_OP + 5;
        static final int PLUS = FIRST_OP + 6, MINUS = FIRST_OP + 7, TIMES = FIRST_OP + 8;
        static final int PARTS = 3;

        private final int[] code;
        private final int[] ends;

        /** Of a code that may be overwritten, and of where its parts end (the first one of them: 0). */
        Text(int[] written, int[] endsOfParts) {
            ends = Arrays.copyOf(endsOfParts, PARTS + 1);
            code = Arrays.copyOf(written, ends[PARTS]);
        }

        int value(int part, int[] names, int[] stack) {
            int depth = 0;
            for (int i = ends[part]; i < ends[part + 1]; i++) {
                int op = code[i];
                if (op < FIRST_NAME + names.length && depth < stack.length) {
                    stack[depth] = op < FIRST_NAME ? op : names[op - FIRST_NAME];
                    depth++;
                } else if (op == NEGATE && depth > 0) {
                    stack[depth - 1] = -stack[depth - 1];
                } else if (op == NOT && depth > 0) {
                    stack[depth - 1] = stack[depth - 1] == 0 ? 1 : 0;
                } else if (depth > 1) {
                    depth--;
                    stack[depth - 1] = joined(op, stack[depth - 1], stack[depth]);
                }
            }
            return depth > 0 ? stack[0] : 0;
        }

        private static int joined(int op, int a, int b) {
            switch (op) {
                case OR: return a != 0 || b != 0 ? 1 : 0;
                case AND: return a != 0 && b != 0 ? 1 : 0;
                case LESS: return a < b ? 1 : 0;
                case SAME: return a == b ? 1 : 0;
                case PLUS: return a + b;
                case MINUS: return a - b;
                default: return a * b;
            }
        }
    }

    /** All TEXTS, which of them is THE LAW, and what they say of one and a DAY. */
    private static final class Laws {
        private static final int NAMES = 6;

        private final Year year;
        private final People people;
        private final Text[] texts;
        private final int[] names;
        private final int[] stack;
        int number;
        int law;

        Laws(Year ofYear, People ofPeople) {
            year = ofYear;
            people = ofPeople;
            texts = new Text[MOST_TEXTS];
            names = new int[NAMES];
            stack = new int[MOST_BYTES];
            int[] code = {1, 2, 1};
            int[] ends = {0, 1, 2, 3};
            texts[0] = new Text(code, ends);
            number = 1;
        }

        boolean has(int t) {
            return t >= 0 && t < number;
        }

        /** The caller has seen that there is room. */
        int add(Text made) {
            int t = number;
            if (t < MOST_TEXTS) {
                texts[t] = made;
                number++;
            }
            return t;
        }

        int says(int t, int part, int p, int told, int d) {
            if (!has(t) || !people.has(p) || !year.has(d)) {
                return 0;
            }
            names[0] = d;
            names[1] = year.born[d];
            names[2] = year.days;
            names[3] = people.more[p];
            names[4] = told;
            names[5] = p;
            int most = part == WEIGHS ? MOST_WEIGHT : MOST_MONEY;
            return Math.max(0, Math.min(most, texts[t].value(part, names, stack)));
        }

        /** What all of a set pay or are asked for, together. */
        int saysOfSet(int part, int set) {
            int sum = 0;
            for (int p = 0; p < people.number; p++) {
                if ((set >> p & 1) != 0) {
                    sum += says(law, part, p, people.told[p], people.told[p]);
                }
            }
            return sum;
        }
    }

    /** How heavy each DAY is for each, and DAYS by LOT. What is kept holds till what it depends of changes. */
    private static final class Weights {
        private static final long LOT_FACTOR = 48271, LOT_MODULUS = 2147483647;

        private final Year year;
        private final People people;
        private final Laws book;
        private final int[] heavy;
        private final int[] totals;
        private final boolean[] isFresh;
        /** The DAY of each by the last draw(), NONE: none. */
        final int[] drawn;
        /** Whoever counts by these weights counts anew when this has changed. */
        int version;

        Weights(Year ofYear, People ofPeople, Laws ofBook) {
            year = ofYear;
            people = ofPeople;
            book = ofBook;
            heavy = new int[MOST_PEOPLE * MOST_DAYS];
            totals = new int[MOST_PEOPLE];
            isFresh = new boolean[MOST_PEOPLE];
            drawn = new int[MOST_PEOPLE];
            version = 1;
        }

        void forget() {
            for (int p = 0; p < isFresh.length; p++) {
                isFresh[p] = false;
            }
            version++;
        }

        void forgetOne(int p) {
            if (p >= 0 && p < isFresh.length) {
                isFresh[p] = false;
            }
            version++;
        }

        /** To be called before of(), total() and draw() are. */
        void prepare() {
            for (int p = 0; p < people.number; p++) {
                if (isFresh[p]) {
                    continue;
                }
                totals[p] = 0;
                for (int d = 0; d < year.days; d++) {
                    int w = under(book.law, p, people.kind[p], people.told[p], d);
                    heavy[p * MOST_DAYS + d] = w;
                    totals[p] += w;
                }
                isFresh[p] = true;
            }
        }

        int of(int p, int d) {
            return people.has(p) && year.has(d) ? heavy[p * MOST_DAYS + d] : 0;
        }

        int total(int p) {
            return people.has(p) ? totals[p] : 0;
        }

        int number() {
            return people.number;
        }

        int days() {
            return year.days;
        }

        /** WEIGHT of a DAY for one, were it of a KIND and had a TOLD DAY, and were a TEXT THE LAW. */
        int under(int law, int p, int kind, int told, int d) {
            int more = people.more[p];
            if (kind == SHY) {
                return 1;
            }
            if (People.isA(kind, TOLD)) {
                int behind = told + 1 < year.days ? told + 1 : 0;
                return kind == NEARLY && d == behind ? Math.min(MOST_WEIGHT, 1 + more) : d == told ? 1 : 0;
            }
            if (kind == LATE && d % 2 == 0) {
                return 0;
            }
            int plain = book.says(law, WEIGHS, p, told, d);
            boolean hasMore = People.isA(kind, SPRING) && 2 * d < year.days;
            return hasMore ? Math.min(MOST_WEIGHT, plain + more) : plain;
        }

        void draw(int seed) {
            long lot = seed + 1;
            for (int p = 0; p < people.number; p++) {
                lot = lot * LOT_FACTOR % LOT_MODULUS;
                drawn[p] = dayBy(p, lot);
            }
        }

        private int dayBy(int p, long lot) {
            if (totals[p] <= 0) {
                return NONE;
            }
            long left = lot % totals[p];
            for (int d = 0; d < year.days; d++) {
                left -= heavy[p * MOST_DAYS + d];
                if (left < 0) {
                    return d;
                }
            }
            return NONE;
        }

        /** Any two of those who are DRAWN have one DAY (those who have none do not). */
        boolean anyMeet() {
            int had = 0;
            for (int p = 0; p < people.number; p++) {
                int bit = drawn[p] >= 0 ? 1 << drawn[p] : 0;
                if ((had & bit) != 0) {
                    return true;
                }
                had |= bit;
            }
            return false;
        }
    }

    /** In how many WAYS something is so. What is kept holds for one version of the weights. */
    private static final class Ways {
        private final Weights weights;
        private final long[] all;
        private final long[] onOneDay;
        private final long[] product;
        private final int[] sums;
        private final Spread apart;
        private final Spread upTo;
        private final Spread pairs;
        private final Spread daysTaken;
        /** For so many DAYS gone through (each a row) and each set: WAYS in which all of it have one of these. */
        private final long[] rows;
        private int version;
        private int pairsVersion;
        private int takenVersion;
        private int everyone;

        Ways(Weights of) {
            weights = of;
            all = new long[MOST_SETS];
            onOneDay = new long[MOST_SETS];
            product = new long[MOST_SETS];
            sums = new int[MOST_SETS];
            apart = new Spread(Spread.NOTHING, 1);
            upTo = new Spread(Spread.NOTHING, MOST_PEOPLE);
            pairs = new Spread(Spread.PAIRS, MOST_PEOPLE);
            daysTaken = new Spread(Spread.DAYS_TAKEN, MOST_PEOPLE);
            rows = new long[(MOST_DAYS + 1) * MOST_SETS];
        }

        /** To be called before anything else is. */
        void prepare() {
            weights.prepare();
            if (version == weights.version) {
                return;
            }
            version = weights.version;
            everyone = People.firstOnes(weights.number());
            for (int set = 0; set <= everyone; set++) {
                onOneDay[set] = 0;
            }
            for (int d = 0; d < weights.days(); d++) {
                addDay(d);
            }
            multiplyTotals();
            apart.fill(onOneDay, everyone);
        }

        /** For each set the WEIGHTS of a DAY for all of it, multiplied. */
        private void addDay(int d) {
            product[0] = 1;
            for (int p = 0; p < weights.number(); p++) {
                int w = weights.of(p, d);
                int bit = 1 << p;
                for (int set = 0; set < bit; set++) {
                    product[set + bit] = product[set] * w;
                    onOneDay[set + bit] += product[set + bit];
                }
            }
        }

        private void multiplyTotals() {
            all[0] = 1;
            for (int p = 0; p < weights.number(); p++) {
                int bit = 1 << p;
                for (int set = 0; set < bit; set++) {
                    all[set + bit] = all[set] * weights.total(p);
                }
            }
        }

        long of(int set) {
            return set >= 0 && set <= everyone ? all[set] : 0;
        }

        long ofAll() {
            return all[everyone];
        }

        long apart(int set) {
            return set >= 0 && set <= everyone ? apart.ways(set, 0) : 0;
        }

        long meeting(int set) {
            return of(set) - apart(set);
        }

        /** So many or more have one DAY. */
        long together(int many) {
            upTo.allow(many - 1);
            upTo.fill(onOneDay, everyone);
            return ofAll() - upTo.ways(everyone, 0);
        }

        /** There are just n PAIRS, or DAYS TAKEN. */
        long numbering(int sort, int n) {
            if (sort == Spread.PAIRS) {
                if (pairsVersion != version) {
                    pairs.fill(onOneDay, everyone);
                    pairsVersion = version;
                }
                return pairs.ways(everyone, n);
            }
            if (takenVersion != version) {
                daysTaken.fill(onOneDay, everyone);
                takenVersion = version;
            }
            return daysTaken.ways(everyone, n);
        }

        /** A DAY is TAKEN. */
        long taking(int d) {
            long free = 1;
            for (int p = 0; p < weights.number(); p++) {
                free *= weights.total(p) - weights.of(p, d);
            }
            return ofAll() - free;
        }

        /** All DAYS of a set are TAKEN: WAYS without any of some of them, by turns taken off and put back. */
        long covering(int days) {
            int many = Integer.bitCount(days);
            if (many > weights.number()) {
                return 0;
            }
            int parts = 1 << many;
            for (int part = 0; part < parts; part++) {
                product[part] = Integer.bitCount(part) % 2 == 0 ? 1 : -1;
            }
            for (int p = 0; p < weights.number(); p++) {
                sumParts(p, days);
                for (int part = 0; part < parts; part++) {
                    product[part] *= weights.total(p) - sums[part];
                }
            }
            long sum = 0;
            for (int part = 0; part < parts; part++) {
                sum += product[part];
            }
            return sum;
        }

        /** WEIGHTS for one of each part of a set of DAYS (no more of them than PEOPLE), together. */
        private void sumParts(int p, int days) {
            int bit = 1;
            sums[0] = 0;
            for (int d = 0; d < weights.days() && bit < MOST_SETS; d++) {
                if ((days >> d & 1) != 0) {
                    for (int part = 0; part < bit; part++) {
                        sums[part + bit] = sums[part] + weights.of(p, d);
                    }
                    bit *= 2;
                }
            }
        }

        /** No two are NEAR by k. */
        long scattered(int k) {
            int days = weights.days();
            int number = weights.number();
            if (number < 2) {
                return ofAll();
            }
            if (number * (k + 1) > days) {
                return 0;
            }
            // where nobody has one of the first k DAYS, the last and the first are far apart round the YEAR
            long sum = rows[goThrough(k, days - 1, k) * MOST_SETS + everyone];
            for (int d = 0; d < k; d++) {
                int last = goThrough(d + k + 1, d + days - k - 1, k) * MOST_SETS;
                for (int p = 0; p < number; p++) {
                    sum += weights.of(p, d) * rows[last + (everyone ^ 1 << p)];
                }
            }
            return sum;
        }

        /** A row for each DAY from one to another one, in which no two are NEAR by k: how many rows. */
        private int goThrough(int from, int to, int k) {
            for (int set = 1; set <= everyone; set++) {
                rows[set] = 0;
            }
            rows[0] = 1;
            int row = 0;
            for (int d = from; d <= to && row < MOST_DAYS; d++) {
                addRow(d, row * MOST_SETS, Math.max(0, row - k) * MOST_SETS);
                row++;
            }
            return row;
        }

        /** A DAY is nobody's, or one has it, and all others one of the DAYS that are far enough from it. */
        private void addRow(int d, int last, int farEnough) {
            int here = last + MOST_SETS;
            for (int set = 0; set <= everyone; set++) {
                rows[here + set] = rows[last + set];
            }
            for (int p = 0; p < weights.number(); p++) {
                int w = weights.of(p, d);
                int bit = 1 << p;
                for (int set = bit; set <= everyone; set++) {
                    if ((set & bit) != 0) {
                        rows[here + set] += w * rows[farEnough + set - bit];
                    }
                }
            }
        }

        /** Two first MEET when one is asked. */
        long firstMeeting(int p) {
            return apart(People.firstOnes(p)) * weights.total(p) - apart(People.firstOnes(p + 1));
        }
    }

    /**
     * In how many WAYS of each set of PEOPLE a number that is a sum over all DAYS (of PAIRS, of DAYS TAKEN)
     * comes out as each n, if no more than a limit have one DAY.
     *
     * <p>A WAY parts a set into those who have the first DAY, the second, and so on: what counts it is a product
     * over the DAYS. Written as exponentials the factors become a sum over the DAYS, so that the DAYS need not be
     * gone through one by one: a set is parted into pieces, and a piece counts as often as the WAYS in which all
     * of it have one DAY, times a number that depends of its size alone (below 0, where what other pieces count
     * too much is taken off again). What is too large in between wraps around, and comes back with it.
     */
    private static final class Spread {
        static final int PAIRS = 0, DAYS_TAKEN = 1, NOTHING = 2;

        private final int sort;
        private final int width;
        private final long[] pieces;
        private final long[] found;
        private int limit;

        Spread(int ofSort, int atMost) {
            sort = ofSort;
            width = most(MOST_PEOPLE) + 1;
            pieces = new long[(MOST_PEOPLE + 1) * width];
            found = new long[MOST_SETS * width];
            allow(atMost);
        }

        /** What so many on one DAY add to the number. */
        private int worth(int many) {
            switch (sort) {
                case PAIRS: return many * (many - 1) / 2;
                case DAYS_TAKEN: return many > 0 ? 1 : 0;
                default: return 0;
            }
        }

        /** The most that the number can be for so many. */
        private int most(int many) {
            switch (sort) {
                case PAIRS: return many * (many - 1) / 2;
                case DAYS_TAKEN: return many;
                default: return 0;
            }
        }

        /** From now on so many at most may have one DAY. */
        void allow(int atMost) {
            limit = atMost;
            for (int size = 1; size <= MOST_PEOPLE; size++) {
                for (int n = 0; n < width; n++) {
                    pieces[size * width + n] = 0;
                }
                if (size <= limit) {
                    pieces[size * width + worth(size)] = 1;
                }
                takeOffSmaller(size);
            }
        }

        /** One DAY's factor: a piece with the first of a set, and others of it beside the piece. */
        private void takeOffSmaller(int size) {
            long choices = 1;
            for (int part = 1; part < size; part++) {
                int rest = size - part;
                if (rest <= limit) {
                    for (int n = 0; n <= most(part); n++) {
                        pieces[size * width + n + worth(rest)] -= choices * pieces[part * width + n];
                    }
                }
                choices = choices * (size - part) / part;
            }
        }

        void fill(long[] onOneDay, int everyone) {
            found[0] = 1;
            for (int set = 1; set <= everyone; set++) {
                for (int n = 0; n < width; n++) {
                    found[set * width + n] = 0;
                }
                int lowest = set & -set;
                int others = set ^ lowest;
                int some = others;
                for (int turn = 0; turn < MOST_SETS; turn++) {
                    addPiece(set, lowest | some, onOneDay[lowest | some]);
                    if (some == 0) {
                        break;
                    }
                    some = (some - 1) & others;
                }
            }
        }

        private void addPiece(int set, int piece, long times) {
            if (times == 0) {
                return;
            }
            int size = Integer.bitCount(piece);
            int rest = (set ^ piece) * width;
            int mostOfRest = most(Integer.bitCount(set) - size);
            for (int n = 0; n <= most(size); n++) {
                long factor = pieces[size * width + n] * times;
                if (factor != 0) {
                    for (int m = 0; m <= mostOfRest; m++) {
                        found[set * width + n + m] += factor * found[rest + m];
                    }
                }
            }
        }

        long ways(int set, int n) {
            return n >= 0 && n < width ? found[set * width + n] : 0;
        }
    }

    private static final class Sheet {
        static final int NO_SORT = -1;

        int sort;
        int size;
        final int[] numbers;

        Sheet() {
            sort = NO_SORT;
            numbers = new int[MOST_NUMBERS];
        }

        boolean isMissing() {
            return sort == NO_SORT;
        }

        void become(int ofSort, int n) {
            sort = ofSort;
            size = n;
            for (int i = 0; i < numbers.length; i++) {
                numbers[i] = 0;
            }
        }

        void put(int i, int v) {
            if (i >= 0 && i < size) {
                numbers[i] = sort == BYTES ? (byte) v : sort == SHORTS ? (short) v : v;
            }
        }

        boolean hasRun(int i, int n) {
            return i >= 0 && n >= 0 && i <= size - n;
        }
    }

    private static final class Image {
        boolean isThere;
        private final int[] born;
        private final int[] told;
        private int days;
        private int number;
        private int law;

        Image() {
            born = new int[MOST_DAYS];
            told = new int[MOST_PEOPLE];
        }

        void keep(Year year, People people, Laws book) {
            isThere = true;
            days = year.days;
            System.arraycopy(year.born, 0, born, 0, MOST_DAYS);
            System.arraycopy(people.told, 0, told, 0, MOST_PEOPLE);
            number = people.number;
            law = book.law;
        }

        void bringBack(Year year, People people, Laws book) {
            year.days = days;
            System.arraycopy(born, 0, year.born, 0, MOST_DAYS);
            System.arraycopy(told, 0, people.told, 0, MOST_PEOPLE);
            people.number = number;
            book.law = law;
        }
    }
}
