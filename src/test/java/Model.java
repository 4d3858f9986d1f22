import java.math.BigInteger;
import java.util.ArrayList;
import java.util.Arrays;
import java.util.List;
import java.util.function.Predicate;
import java.util.function.ToIntFunction;

/**
 * The document once more, in the slowest and plainest way: every WAY is gone through, one by one. It is
 * only for the tests, which let it and the class answer the same calls.
 */
final class Model {
    static final long NO = -4611686018427387904L;
    private static final int[] KIND_ABOVE = {-1, 0, 0, 1, 2, 0};
    private static final List<String> NAMES = List.of("day", "born", "year", "more", "told", "who");
    private static final List<String> KEYS = List.of("weighs", "pays", "asks", "or", "and", "not");

    private record One(int kind, int more, int told) { }

    private record Scene(int day, int born, int year, int more, int told, int who) { }

    private interface E {
        int value(Scene scene);
    }

    private record Token(int place, String text, boolean bad) { }

    private static final class Fault extends Exception {
        private static final long serialVersionUID = 1;
        final int place;

        Fault(int place) {
            this.place = place;
        }
    }

    private int year = 12;
    private int[] born = new int[24];
    private List<One> people = new ArrayList<>();
    private final List<List<E>> texts = new ArrayList<>();
    private int law = 0;
    private final List<Integer> tape = new ArrayList<>();
    private final int[][] sheets = new int[4][];
    private final int[] sorts = new int[4];

    private boolean imaged = false;
    private int imageYear;
    private int[] imageBorn;
    private int[] imageTold;
    private int imageLaw;

    Model() {
        texts.add(List.of(s -> 1, s -> 2, s -> 1));
    }

    int size() {
        return people.size();
    }

    /** How many WAYS there are at most: DAYS that weigh nothing are left out. */
    double manyWays() {
        double product = 1;
        for (int p = 0; p < people.size(); p++) {
            int days = 0;
            for (int d = 0; d < year; d++) {
                days += weightOf(p, d) > 0 ? 1 : 0;
            }
            product *= days;
        }
        return product;
    }

    // ---- the year, the law

    public int set(int what, int of, int v) {
        if (what == 0) {
            if (v < 1 || v > 24) {
                return -2;
            }
            for (One one : people) {
                if (one.told >= v) {
                    return -3;
                }
            }
            int was = year;
            year = v;
            return was;
        }
        if (what == 1) {
            if (!isDay(of) || v < 0 || v > 9) {
                return -2;
            }
            int was = born[of];
            born[of] = v;
            return was;
        }
        return -1;
    }

    private boolean isDay(int d) {
        return 0 <= d && d < year;
    }

    private boolean isOne(int p) {
        return 0 <= p && p < people.size();
    }

    public int count(int what) {
        return switch (what) {
            case 0 -> people.size();
            case 1 -> year;
            case 2 -> texts.size();
            case 3 -> law;
            case 4 -> tape.size();
            default -> -2;
        };
    }

    public int bornOn(int d) {
        return isDay(d) ? born[d] : -2;
    }

    public int feed(int n, int a, int b, int c, int d, int e) {
        int[] five = {a, b, c, d, e};
        if (n < 1 || n > 5 || Arrays.stream(five).anyMatch(v -> v < 0 || v > 255)) {
            return -2;
        }
        if (tape.size() + n > 160) {
            return -4;
        }
        for (int i = 0; i < n; i++) {
            tape.add(five[i]);
        }
        return tape.size();
    }

    public int text() {
        if (texts.size() == 6) {
            return -4;
        }
        StringBuilder whole = new StringBuilder();
        tape.forEach(b -> whole.append((char) (int) b));
        tape.clear();
        try {
            texts.add(new Parser(whole.toString()).text());
            return texts.size() - 1;
        } catch (Fault fault) {
            return -100 - fault.place;
        }
    }

    private static final class Parser {
        private final List<Token> tokens = new ArrayList<>();
        private final int size;
        private int at = 0;
        private int open = 0;

        Parser(String whole) {
            size = whole.length();
            int i = 0;
            while (i < size) {
                char c = whole.charAt(i);
                int j = i + 1;
                if (c == ' ' || c == '\n') {
                    i = j;
                    continue;
                }
                boolean bad = false;
                if (c >= 'a' && c <= 'z') {
                    while (j < size && whole.charAt(j) >= 'a' && whole.charAt(j) <= 'z') {
                        j++;
                    }
                    String word = whole.substring(i, j);
                    bad = !KEYS.contains(word) && !NAMES.contains(word);
                } else if (c >= '0' && c <= '9') {
                    while (j < size && whole.charAt(j) >= '0' && whole.charAt(j) <= '9') {
                        j++;
                    }
                    bad = j - i > 4;
                } else {
                    bad = "();+-*<=".indexOf(c) < 0;
                }
                tokens.add(new Token(i, whole.substring(i, j), bad));
                i = j;
            }
        }

        private boolean sees(String text) {
            return at < tokens.size() && !tokens.get(at).bad && tokens.get(at).text.equals(text);
        }

        private int here() {
            return at < tokens.size() ? tokens.get(at).place : size;
        }

        private void must(String text) throws Fault {
            if (!sees(text)) {
                throw new Fault(here());
            }
            at++;
        }

        private void opens() throws Fault {
            if (open == 5) {
                throw new Fault(here());
            }
            open++;
            at++;
        }

        List<E> text() throws Fault {
            List<E> parts = new ArrayList<>();
            for (String key : List.of("weighs", "pays", "asks")) {
                must(key);
                parts.add(e());
                must(";");
            }
            if (at < tokens.size()) {
                throw new Fault(here());
            }
            return parts;
        }

        private E e() throws Fault {
            E left = and();
            while (sees("or")) {
                at++;
                E a = left;
                E b = and();
                left = s -> a.value(s) != 0 | b.value(s) != 0 ? 1 : 0;
            }
            return left;
        }

        private E and() throws Fault {
            E left = not();
            while (sees("and")) {
                at++;
                E a = left;
                E b = not();
                left = s -> a.value(s) != 0 & b.value(s) != 0 ? 1 : 0;
            }
            return left;
        }

        private E not() throws Fault {
            if (sees("not")) {
                opens();
                E of = not();
                open--;
                return s -> of.value(s) == 0 ? 1 : 0;
            }
            E a = sum();
            if (sees("<")) {
                at++;
                E b = sum();
                return s -> a.value(s) < b.value(s) ? 1 : 0;
            }
            if (sees("=")) {
                at++;
                E b = sum();
                return s -> a.value(s) == b.value(s) ? 1 : 0;
            }
            return a;
        }

        private E sum() throws Fault {
            E left = term();
            while (sees("+") || sees("-")) {
                boolean plus = sees("+");
                at++;
                E a = left;
                E b = term();
                left = plus ? s -> a.value(s) + b.value(s) : s -> a.value(s) - b.value(s);
            }
            return left;
        }

        private E term() throws Fault {
            E left = one();
            while (sees("*")) {
                at++;
                E a = left;
                E b = one();
                left = s -> a.value(s) * b.value(s);
            }
            return left;
        }

        private E one() throws Fault {
            if (at >= tokens.size() || tokens.get(at).bad) {
                throw new Fault(here());
            }
            String text = tokens.get(at).text;
            if (text.charAt(0) >= '0' && text.charAt(0) <= '9') {
                at++;
                int number = Integer.parseInt(text);
                return s -> number;
            }
            if (text.equals("-")) {
                opens();
                E of = one();
                open--;
                return s -> -of.value(s);
            }
            if (text.equals("(")) {
                opens();
                E of = e();
                must(")");
                open--;
                return of;
            }
            if (!NAMES.contains(text)) {
                throw new Fault(here());
            }
            at++;
            return switch (text) {
                case "day" -> s -> s.day;
                case "born" -> s -> s.born;
                case "year" -> s -> s.year;
                case "more" -> s -> s.more;
                case "told" -> s -> s.told;
                default -> s -> s.who;
            };
        }
    }

    public int force(int t) {
        if (t < 0 || t >= texts.size()) {
            return -2;
        }
        int was = law;
        law = t;
        return was;
    }

    private int says(int t, int part, int p, One one, int d) {
        int v = texts.get(t).get(part).value(new Scene(d, born[d], year, one.more, one.told, p));
        int most = part == 0 ? 9 : 40;
        return v < 0 ? 0 : v > most ? most : v;
    }

    public int asks(int part, int p, int d) {
        return part < 0 || part > 2 || !isOne(p) || !isDay(d) ? -2 : says(law, part, p, people.get(p), d);
    }

    // ---- people

    public int person(int kind, int more, int d) {
        if (kind < 0 || kind > 5 || more < 0 || more > 9 || !isDay(d)) {
            return -2;
        }
        if (people.size() == 7) {
            return -4;
        }
        people.add(new One(kind, more, d));
        return people.size() - 1;
    }

    public int move(int p, int d) {
        if (!isOne(p)) {
            return -5;
        }
        if (!isDay(d)) {
            return -7;
        }
        One one = people.get(p);
        people.set(p, new One(one.kind, one.more, d));
        return one.told;
    }

    private static int doubts(One one) {
        return one.kind == 2 ? 1 + one.more : one.kind == 4 ? 2 + 2 * one.more : 1;
    }

    public int told(int p, int what) {
        if (!isOne(p)) {
            return -5;
        }
        One one = people.get(p);
        return switch (what) {
            case 0 -> one.kind;
            case 1 -> one.more;
            case 2 -> one.told;
            case 3 -> doubts(one);
            case 4 -> allWeights(p);
            default -> -7;
        };
    }

    private int allWeights(int p) {
        int sum = 0;
        for (int d = 0; d < year; d++) {
            sum += weightOf(p, d);
        }
        return sum;
    }

    public int weight(int p, int d) {
        return isOne(p) && isDay(d) ? weightOf(p, d) : -2;
    }

    private int weightOf(int p, int d) {
        return weightUnder(law, p, people.get(p), d);
    }

    private int weightUnder(int t, int p, One one, int d) {
        int plain = says(t, 0, p, one, d);
        int spring = d + d < year ? plain + one.more : plain;
        int told = d == one.told ? 1 : 0;
        int w = switch (one.kind) {
            case 0 -> plain;
            case 1 -> spring;
            case 2 -> told;
            case 3 -> d == d / 2 * 2 ? 0 : spring;
            case 4 -> d == (one.told + 1) % year ? 1 + one.more : told;
            default -> 1;
        };
        return Math.min(w, 9);
    }

    // ---- how likely

    /** WAYS of a set of PEOPLE in which something is so of their DAYS. */
    private BigInteger ways(int set, Predicate<int[]> so) {
        List<Integer> who = new ArrayList<>();
        for (int p = 0; p < people.size(); p++) {
            if ((set >> p & 1) == 1) {
                who.add(p);
            }
        }
        return waysFrom(who, 0, new int[who.size()], 1, so);
    }

    private BigInteger waysFrom(List<Integer> who, int i, int[] days, long times, Predicate<int[]> so) {
        if (i == days.length) {
            return so.test(days) ? BigInteger.valueOf(times) : BigInteger.ZERO;
        }
        BigInteger sum = BigInteger.ZERO;
        for (int d = 0; d < year; d++) {
            int w = weightOf(who.get(i), d);
            if (w > 0) {
                days[i] = d;
                sum = sum.add(waysFrom(who, i + 1, days, times * w, so));
            }
        }
        return sum;
    }

    private int everyone() {
        return (1 << people.size()) - 1;
    }

    private boolean isSet(int set) {
        return set >= 0 && set <= everyone();
    }

    private long fraction(BigInteger above, BigInteger below, int part) {
        if (part != 0 && part != 1 || below.signum() == 0) {
            return NO;
        }
        BigInteger common = above.gcd(below);
        return (part == 0 ? above : below).divide(common).longValueExact();
    }

    private long likely(int set, Predicate<int[]> so, int part) {
        return fraction(ways(set, so), ways(set, days -> true), part);
    }

    private long likely(Predicate<int[]> so, int part) {
        return likely(everyone(), so, part);
    }

    private static int pairs(int[] days) {
        int n = 0;
        for (int i = 0; i < days.length; i++) {
            for (int j = i + 1; j < days.length; j++) {
                n += days[i] == days[j] ? 1 : 0;
            }
        }
        return n;
    }

    private static boolean meet(int[] days) {
        return pairs(days) > 0;
    }

    private static int daysTaken(int[] days) {
        return (int) Arrays.stream(days).distinct().count();
    }

    private static int mostOnOneDay(int[] days) {
        int most = 0;
        for (int d : days) {
            most = Math.max(most, (int) Arrays.stream(days).filter(e -> e == d).count());
        }
        return most;
    }

    private static boolean takes(int[] days, int d) {
        return Arrays.stream(days).anyMatch(e -> e == d);
    }

    public long meets(int many, int part) {
        return many < 1 || many > 7 ? NO : likely(days -> mostOnOneDay(days) >= many, part);
    }

    public long among(int set, int part) {
        return isSet(set) ? likely(set, Model::meet, part) : NO;
    }

    public long mine(int d, int part) {
        return isDay(d) ? likely(days -> takes(days, d), part) : NO;
    }

    public int likeliest() {
        int best = 0;
        BigInteger most = BigInteger.valueOf(-1);
        for (int d = 0; d < year; d++) {
            int day = d;
            BigInteger those = ways(everyone(), days -> takes(days, day));
            if (those.compareTo(most) > 0) {
                best = d;
                most = those;
            }
        }
        return best;
    }

    private static ToIntFunction<int[]> number(int sort) {
        return sort == 0 ? Model::pairs : Model::daysTaken;
    }

    public long many(int sort, int n, int part) {
        return sort < 0 || sort > 1 || n < 0 || n > 21 ? NO
            : likely(days -> number(sort).applyAsInt(days) == n, part);
    }

    public int likely(int sort) {
        if (sort < 0 || sort > 1) {
            return -2;
        }
        int best = 0;
        BigInteger most = BigInteger.valueOf(-1);
        for (int i = 0; i <= 21; i++) {
            int n = i;
            BigInteger those = ways(everyone(), days -> number(sort).applyAsInt(days) == n);
            if (those.compareTo(most) > 0) {
                best = n;
                most = those;
            }
        }
        return best;
    }

    public long mean(int sort, int part) {
        if (sort < 0 || sort > 1) {
            return NO;
        }
        BigInteger[] sum = {BigInteger.ZERO};
        for (int i = 0; i <= 21; i++) {
            int n = i;
            BigInteger those = ways(everyone(), days -> number(sort).applyAsInt(days) == n);
            sum[0] = sum[0].add(those.multiply(BigInteger.valueOf(n)));
        }
        return fraction(sum[0], ways(everyone(), days -> true), part);
    }

    public long covers(int set, int part) {
        if (set < 0 || set >> year != 0) {
            return NO;
        }
        return likely(days -> {
            int had = 0;
            for (int d : days) {
                had |= 1 << d;
            }
            return (had & set) == set;
        }, part);
    }

    private boolean anyNear(int[] days, int k) {
        for (int i = 0; i < days.length; i++) {
            for (int j = 0; j < i; j++) {
                int apart = Math.abs(days[i] - days[j]);
                if (Math.min(apart, year - apart) <= k) {
                    return true;
                }
            }
        }
        return false;
    }

    public long near(int k, int part) {
        return k < 0 || k > 24 ? NO : likely(days -> anyNear(days, k), part);
    }

    // ---- one by one

    private boolean asLikely(int set, int hundredth) {
        BigInteger all = ways(set, days -> true);
        BigInteger those = ways(set, Model::meet);
        return all.signum() > 0
            && those.multiply(BigInteger.valueOf(100)).compareTo(all.multiply(BigInteger.valueOf(hundredth))) >= 0;
    }

    public int needs(int hundredth) {
        if (hundredth < 1 || hundredth > 100) {
            return -2;
        }
        for (int n = 0; n <= people.size(); n++) {
            if (asLikely((1 << n) - 1, hundredth)) {
                return n;
            }
        }
        return -1;
    }

    /** How many are asked till two MEET; one more than there are, if none do. */
    private static int askedTill(int[] days) {
        for (int n = 1; n <= days.length; n++) {
            if (meet(Arrays.copyOf(days, n))) {
                return n;
            }
        }
        return days.length + 1;
    }

    public long first(int p, int part) {
        return isOne(p) ? likely((2 << p) - 1, days -> askedTill(days) == p + 1, part) : NO;
    }

    public int place() {
        int best = -1;
        BigInteger above = BigInteger.ZERO;
        BigInteger below = BigInteger.ONE;
        for (int i = 0; i < people.size(); i++) {
            int p = i;
            BigInteger those = ways((2 << p) - 1, days -> askedTill(days) == p + 1);
            BigInteger all = ways((2 << p) - 1, days -> true);
            if (all.signum() > 0 && those.multiply(below).compareTo(above.multiply(all)) > 0) {
                best = p;
                above = those;
                below = all;
            }
        }
        return best;
    }

    public long asked(int part) {
        BigInteger sum = BigInteger.ZERO;
        for (int i = 1; i <= people.size(); i++) {
            int n = i;
            BigInteger those = ways(everyone(), days -> Math.min(askedTill(days), days.length) == n);
            sum = sum.add(those.multiply(BigInteger.valueOf(n)));
        }
        return fraction(sum, ways(everyone(), days -> true), part);
    }

    // ---- whom to ask

    private boolean guests(int set) {
        int others = Integer.bitCount(set) - 1;
        for (int p = 0; p < people.size(); p++) {
            One one = people.get(p);
            if ((set >> p & 1) == 1
                && (one.kind == 3 && others > one.more || one.kind == 5 && others > one.more / 3)) {
                return false;
            }
        }
        return ways(set, days -> true).signum() > 0;
    }

    public long host(int many, int what) {
        if (many < 1 || many > 7 || what < 0 || what > 2) {
            return NO;
        }
        int best = -1;
        BigInteger above = BigInteger.ZERO;
        BigInteger below = BigInteger.ONE;
        for (int set = 0; set <= everyone(); set++) {
            if (Integer.bitCount(set) == many && guests(set)) {
                BigInteger those = ways(set, Model::meet);
                BigInteger all = ways(set, days -> true);
                if (best < 0 || those.multiply(below).compareTo(above.multiply(all)) > 0) {
                    best = set;
                    above = those;
                    below = all;
                }
            }
        }
        return what == 0 ? best : best < 0 ? NO : fraction(above, below, what - 1);
    }

    private int together(int part, int set) {
        int sum = 0;
        for (int p = 0; p < people.size(); p++) {
            sum += (set >> p & 1) * says(law, part, p, people.get(p), people.get(p).told);
        }
        return sum;
    }

    public int cheap(int hundredth, int what) {
        if (hundredth < 1 || hundredth > 100 || what < 0 || what > 1) {
            return -2;
        }
        int best = -1;
        for (int set = 1; set <= everyone(); set++) {
            if (guests(set) && asLikely(set, hundredth) && (best < 0 || together(2, set) < together(2, best))) {
                best = set;
            }
        }
        return what == 0 || best < 0 ? best : together(2, best);
    }

    public long wager(int set, int part) {
        if (!isSet(set)) {
            return NO;
        }
        BigInteger all = ways(set, days -> true);
        BigInteger won = ways(set, Model::meet).multiply(BigInteger.valueOf(together(1, set)));
        return fraction(won.subtract(all.multiply(BigInteger.valueOf(together(2, set)))), all, part);
    }

    // ---- told lists

    private int refusal(int s) {
        if (s < 0 || s > 3) {
            return -2;
        }
        if (sheets[s] == null) {
            return -11;
        }
        return sheets[s].length == people.size() && Arrays.stream(sheets[s]).allMatch(this::isDay) ? 0 : -2;
    }

    public int judge(int s) {
        return refusal(s) != 0 ? refusal(s) : judgeBy(s, law);
    }

    private int judgeBy(int s, int t) {
        for (int p = 0; p < people.size(); p++) {
            if (weightUnder(t, p, people.get(p), sheets[s][p]) == 0) {
                return p;
            }
        }
        return -1;
    }

    public int list(int s, int what) {
        if (refusal(s) != 0) {
            return refusal(s);
        }
        int[] days = sheets[s];
        int sum = 0;
        switch (what) {
            case 0:
                return askedTill(days) > days.length ? -1 : askedTill(days) - 1;
            case 1:
                return pairs(days);
            case 2:
                for (int d : days) {
                    sum |= 1 << d;
                }
                return sum;
            case 3:
                for (int p = 0; p < people.size(); p++) {
                    sum += weightOf(p, days[p]) == 0 ? doubts(people.get(p)) : 0;
                }
                return sum;
            default:
                return -2;
        }
    }

    public long comes(int s, int part) {
        return refusal(s) != 0 ? NO : likely(days -> Arrays.equals(days, sheets[s]), part);
    }

    public long luck(int s, int part) {
        return refusal(s) != 0 ? NO : likely(days -> daysTaken(days) <= daysTaken(sheets[s]), part);
    }

    public int laws(int s) {
        if (refusal(s) != 0) {
            return refusal(s);
        }
        int bits = 0;
        for (int t = 0; t < texts.size(); t++) {
            bits |= judgeBy(s, t) == -1 ? 1 << t : 0;
        }
        return bits;
    }

    public int can(int s, int p, int sort) {
        if (refusal(s) != 0) {
            return refusal(s);
        }
        if (!isOne(p)) {
            return -5;
        }
        if (sort < 0 || sort > 1) {
            return -7;
        }
        One one = people.get(p);
        int bits = 0;
        for (int i = 0; i < (sort == 0 ? year : 6); i++) {
            One other = sort == 0 ? new One(one.kind, one.more, i) : new One(i, one.more, one.told);
            bits |= weightUnder(law, p, other, sheets[s][p]) > 0 ? 1 << i : 0;
        }
        return bits;
    }

    // ---- lists by lot

    private int[] drawnBy(int seed) {
        int[] days = new int[people.size()];
        BigInteger lot = BigInteger.valueOf(seed).add(BigInteger.ONE);
        for (int p = 0; p < days.length; p++) {
            lot = lot.multiply(BigInteger.valueOf(48271)).mod(BigInteger.valueOf(2147483647));
            days[p] = -1;
            if (allWeights(p) > 0) {
                int r = lot.mod(BigInteger.valueOf(allWeights(p))).intValue();
                int up = 0;
                for (int d = 0; d < year && days[p] < 0; d++) {
                    up += weightOf(p, d);
                    days[p] = up > r ? d : -1;
                }
            }
        }
        return days;
    }

    public int drawn(int seed, int p) {
        return !isOne(p) ? -5 : seed < 0 || seed > 99999 ? -7 : drawnBy(seed)[p];
    }

    public int film(int s, int seed) {
        if (s < 0 || s > 3 || seed < 0 || seed > 99999) {
            return -2;
        }
        sheets[s] = drawnBy(seed);
        sorts[s] = 2;
        return people.size();
    }

    public long odds(int seed, int seeds, int part) {
        if (seed < 0 || seed > 99999 || seeds < 1 || seeds > 50) {
            return NO;
        }
        int met = 0;
        for (int i = seed; i < seed + seeds; i++) {
            met += meet(Arrays.stream(drawnBy(i)).filter(d -> d >= 0).toArray()) ? 1 : 0;
        }
        return fraction(BigInteger.valueOf(met), BigInteger.valueOf(seeds), part);
    }

    public int image() {
        imaged = true;
        imageYear = year;
        imageBorn = born.clone();
        imageTold = people.stream().mapToInt(One::told).toArray();
        imageLaw = law;
        return people.size();
    }

    public int back() {
        if (!imaged) {
            return -3;
        }
        year = imageYear;
        born = imageBorn.clone();
        law = imageLaw;
        List<One> those = new ArrayList<>();
        for (int p = 0; p < imageTold.length; p++) {
            those.add(new One(people.get(p).kind, people.get(p).more, imageTold[p]));
        }
        people = those;
        return people.size();
    }

    // ---- the host

    public int sheet(int s, int sort, int n) {
        if (s < 0 || s > 3 || sort < -1 || sort > 2 || sort >= 0 && n > 40) {
            return -2;
        }
        if (sort >= 0 && n < 0) {
            return -14;
        }
        sorts[s] = sort;
        sheets[s] = sort < 0 ? null : new int[n];
        return 1;
    }

    public int cell(int s, int i, int v) {
        if (s < 0 || s > 3) {
            return -2;
        }
        if (sheets[s] == null) {
            return -11;
        }
        if (i < 0 || i >= sheets[s].length) {
            return -12;
        }
        sheets[s][i] = sorts[s] == 0 ? (byte) v : sorts[s] == 1 ? (short) v : v;
        return 1;
    }

    public int copy(int s, int i, int other, int j, int n) {
        if (s < 0 || s > 3 || other < 0 || other > 3) {
            return -2;
        }
        if (sheets[s] == null || sheets[other] == null) {
            return -11;
        }
        if (sorts[s] != sorts[other]) {
            return -13;
        }
        if (i < 0 || j < 0 || n < 0 || (long) i + n > sheets[s].length || (long) j + n > sheets[other].length) {
            return -12;
        }
        int[] was = sheets[s].clone();
        for (int k = 0; k < n; k++) {
            sheets[other][j + k] = was[i + k];
        }
        return n;
    }

    public int peopleBy(int s, int sort, int at, int n) {
        if (s < 0 || s > 3 || sort < 0 || sort > 2 || n < 0 || n > 7) {
            return -2;
        }
        if (sheets[s] == null) {
            return -11;
        }
        if (sorts[s] != sort) {
            return -13;
        }
        int came = 0;
        for (long k = 0, from = at; k < n; k++, from += 3) {
            if (from < 0 || from + 2 >= sheets[s].length) {
                return -12;
            }
            int[] row = sheets[s];
            came += person(row[(int) from], row[(int) from + 1], row[(int) from + 2]) >= 0 ? 1 : 0;
        }
        return came;
    }

    public int taken(int i, int kind) {
        if (kind < 0 || kind > 6) {
            return -2;
        }
        if (i < 0 || i > 30) {
            return -12;
        }
        if (i < 24) {
            return !isDay(i) || born[i] == 0 ? -11 : kind == 6 ? born[i] : -13;
        }
        int p = i - 24;
        if (!isOne(p)) {
            return -11;
        }
        for (int k = people.get(p).kind; k >= 0; k = KIND_ABOVE[k]) {
            if (k == kind) {
                return p;
            }
        }
        return -13;
    }
}
