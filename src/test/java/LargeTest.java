import java.math.BigInteger;
import java.util.HashMap;
import java.util.Map;
import java.util.Random;

/**
 * Up to seven PEOPLE and 24 DAYS, where WAYS are too many to go through: they are counted here DAY by DAY, a
 * set of those who have none yet and what has come of the others so far being kept.
 */
public final class LargeTest {
    private record State(int left, int pairs, int taken, int most) { }

    private final TwoOnOneDay x = new TwoOnOneDay();
    private final String name;
    private int days;
    private int people;
    private int[][] weights;
    private Map<State, BigInteger> ends;
    private BigInteger all;

    private LargeTest(String name) {
        this.name = name;
    }

    public static void main(String[] arguments) {
        Check.watch();
        LargeTest most = new LargeTest("most");
        most.make(24, 7, 0, "weighs 9;pays 40;asks 40;");
        most.checkAll();
        Random random = new Random(7);
        for (int i = 0; i < 12; i++) {
            LargeTest some = new LargeTest("by lot " + i);
            some.make(i < 4 ? 24 : 13 + random.nextInt(12), i < 4 ? 7 : 5 + random.nextInt(3), random.nextInt(3) - 1,
                "weighs (born+who)*(day<" + random.nextInt(20) + "+who*2)+(" + random.nextInt(10) + "-born)*(not day<"
                + random.nextInt(20) + "-who)+(day=who);pays day;asks who;");
            some.checkAll();
        }
        Check.end();
    }

    private void make(int ofDays, int ofPeople, int kind, String law) {
        days = ofDays;
        people = ofPeople;
        x.set(0, 0, days);
        for (int d = 0; d < days; d++) {
            x.set(1, d, d * d * (d + 3) % 11 % 10);
        }
        for (int p = 0; p < people; p++) {
            x.person(kind < 0 ? p % 4 == 2 ? 5 : p % 4 : kind, p + 2, 3 * p % days);
        }
        Check.law(x, law);
        weights = new int[people][days];
        all = BigInteger.ONE;
        for (int p = 0; p < people; p++) {
            int sum = 0;
            for (int d = 0; d < days; d++) {
                weights[p][d] = x.weight(p, d);
                sum += weights[p][d];
            }
            all = all.multiply(BigInteger.valueOf(sum));
        }
        Check.isTrue(name + " has ways", all.signum() > 0);
        ends = ends(everyone());
    }

    private int everyone() {
        return (1 << people) - 1;
    }

    private Map<State, BigInteger> ends(int set) {
        Map<State, BigInteger> now = new HashMap<>();
        now.put(new State(set, 0, 0, 0), BigInteger.ONE);
        for (int d = 0; d < days; d++) {
            Map<State, BigInteger> next = new HashMap<>();
            for (Map.Entry<State, BigInteger> entry : now.entrySet()) {
                State s = entry.getKey();
                for (int here = s.left;; here = here - 1 & s.left) {
                    long times = timesOnDay(here, d);
                    if (times > 0) {
                        int k = Integer.bitCount(here);
                        State to = new State(s.left ^ here, s.pairs + k * (k - 1) / 2, s.taken + (k > 0 ? 1 : 0),
                            Math.max(s.most, k));
                        next.merge(to, entry.getValue().multiply(BigInteger.valueOf(times)), BigInteger::add);
                    }
                    if (here == 0) {
                        break;
                    }
                }
            }
            now = next;
        }
        now.keySet().removeIf(s -> s.left != 0);
        return now;
    }

    private long timesOnDay(int set, int d) {
        long times = 1;
        for (int p = 0; p < people; p++) {
            times *= (set >> p & 1) == 1 ? weights[p][d] : 1;
        }
        return times;
    }

    private void checkAll() {
        checkNumbers();
        checkSets();
        checkCovers();
        for (int k = 0; k <= 24; k++) {
            int by = k;
            BigInteger far = farApart(k);
            fraction("near " + k, part -> x.near(by, part), all.subtract(far), all);
        }
    }

    private void fraction(String what, Check.Fraction got, BigInteger above, BigInteger below) {
        BigInteger common = above.gcd(below);
        Check.fraction(name + " " + what, got, above.divide(common).longValueExact(), below.divide(common).longValueExact());
    }

    private void checkNumbers() {
        BigInteger[][] by = new BigInteger[3][22];
        for (BigInteger[] row : by) {
            java.util.Arrays.fill(row, BigInteger.ZERO);
        }
        ends.forEach((s, times) -> {
            by[0][s.pairs] = by[0][s.pairs].add(times);
            by[1][s.taken] = by[1][s.taken].add(times);
            by[2][s.most] = by[2][s.most].add(times);
        });
        for (int sort = 0; sort < 2; sort++) {
            int of = sort;
            BigInteger sum = BigInteger.ZERO;
            int best = 0;
            for (int i = 0; i < 22; i++) {
                int n = i;
                fraction("many " + sort + " " + n, part -> x.many(of, n, part), by[sort][n], all);
                sum = sum.add(by[sort][n].multiply(BigInteger.valueOf(n)));
                best = by[sort][n].compareTo(by[sort][best]) > 0 ? n : best;
            }
            fraction("mean " + sort, part -> x.mean(of, part), sum, all);
            Check.due(name + " likely " + sort, x.likely(sort), best);
        }
        BigInteger sum = BigInteger.ZERO;
        for (int i = 7; i >= 1; i--) {
            int many = i;
            sum = sum.add(by[2][many]);
            fraction("meets " + many, part -> x.meets(many, part), sum, all);
        }
        x.film(0, 4711);
        int taken = Integer.bitCount(x.list(0, 2));
        BigInteger luck = BigInteger.ZERO;
        for (int n = 0; n <= taken; n++) {
            luck = luck.add(by[1][n]);
        }
        fraction("luck", part -> x.luck(0, part), luck, all);
    }

    private BigInteger allOf(int set) {
        BigInteger product = BigInteger.ONE;
        for (int p = 0; p < people; p++) {
            if ((set >> p & 1) == 1) {
                product = product.multiply(BigInteger.valueOf(x.told(p, 4)));
            }
        }
        return product;
    }

    /** WAYS of a set in which all have DAYS of their own. */
    private BigInteger apart(int set) {
        BigInteger sum = BigInteger.ZERO;
        for (Map.Entry<State, BigInteger> entry : ends(set).entrySet()) {
            sum = entry.getKey().most < 2 ? sum.add(entry.getValue()) : sum;
        }
        return sum;
    }

    private void checkSets() {
        BigInteger[] apart = new BigInteger[everyone() + 1];
        for (int i = 0; i < apart.length; i++) {
            int set = i;
            apart[set] = apart(set);
            BigInteger met = allOf(set).subtract(apart[set]);
            fraction("among " + set, part -> x.among(set, part), met, allOf(set));
            int pays = 0;
            int asks = 0;
            for (int p = 0; p < people; p++) {
                pays += (set >> p & 1) * x.asks(1, p, x.told(p, 2));
                asks += (set >> p & 1) * x.asks(2, p, x.told(p, 2));
            }
            fraction("wager " + set, part -> x.wager(set, part), met.multiply(BigInteger.valueOf(pays))
                .subtract(allOf(set).multiply(BigInteger.valueOf(asks))), allOf(set));
        }
        BigInteger asked = BigInteger.ZERO;
        int best = -1;
        BigInteger most = BigInteger.ZERO;
        for (int i = 0; i < people; i++) {
            int p = i;
            int before = (1 << p) - 1;
            int now = (2 << p) - 1;
            BigInteger first = apart[before].multiply(allOf(1 << p)).subtract(apart[now]);
            fraction("first " + p, part -> x.first(p, part), first, allOf(now));
            BigInteger together = first.multiply(allOf(everyone() ^ now));
            // it is with one that two first meet: so many are asked; all, if they never do
            asked = asked.add(together.multiply(BigInteger.valueOf(p + 1)));
            best = together.compareTo(most) > 0 ? p : best;
            most = together.max(most);
        }
        asked = asked.add(apart[everyone()].multiply(BigInteger.valueOf(people)));
        fraction("asked", x::asked, asked, all);
        Check.due(name + " place", x.place(), best);
        checkHost(apart);
    }

    private boolean come(int set) {
        for (int p = 0; p < people; p++) {
            int most = x.told(p, 0) == 3 ? x.told(p, 1) : x.told(p, 0) == 5 ? x.told(p, 1) / 3 : 7;
            if ((set >> p & 1) == 1 && Integer.bitCount(set) - 1 > most) {
                return false;
            }
        }
        return true;
    }

    private void checkHost(BigInteger[] apart) {
        for (int many = 1; many <= 7; many++) {
            int best = -1;
            for (int set = 1; set < apart.length; set++) {
                // apart by all ways, the less the likelier
                if (Integer.bitCount(set) == many && come(set) && (best < 0
                    || apart[set].multiply(allOf(best)).compareTo(apart[best].multiply(allOf(set))) < 0)) {
                    best = set;
                }
            }
            Check.due(name + " host " + many, x.host(many, 0), best);
        }
        for (int hundredth = 1; hundredth <= 100; hundredth += 9) {
            int best = -1;
            int least = -1;
            for (int set = 1; set < apart.length; set++) {
                BigInteger met = allOf(set).subtract(apart[set]).multiply(BigInteger.valueOf(100));
                if (!come(set) || met.compareTo(allOf(set).multiply(BigInteger.valueOf(hundredth))) < 0) {
                    continue;
                }
                int asks = 0;
                for (int p = 0; p < people; p++) {
                    asks += (set >> p & 1) * x.asks(2, p, x.told(p, 2));
                }
                if (best < 0 || asks < least) {
                    best = set;
                    least = asks;
                }
            }
            Check.due(name + " cheap " + hundredth, x.cheap(hundredth, 0), best);
            Check.due(name + " cheap " + hundredth, x.cheap(hundredth, 1), least);
            int needs = -1;
            for (int n = people; n >= 1; n--) {
                int set = (1 << n) - 1;
                BigInteger met = allOf(set).subtract(apart[set]).multiply(BigInteger.valueOf(100));
                needs = met.compareTo(allOf(set).multiply(BigInteger.valueOf(hundredth))) >= 0 ? n : needs;
            }
            Check.due(name + " needs " + hundredth, x.needs(hundredth), needs);
        }
    }

    /** One by one, by which of the DAYS of a set are TAKEN already. */
    private void checkCovers() {
        int[] sets = {0, 1, 1 << days - 1, 0b11, 0b1001001, 0b101010101, 0x7f, 0xff, 1 << days - 1 | 0b1100, (1 << days) - 1};
        for (int set : sets) {
            Map<Integer, BigInteger> now = new HashMap<>(Map.of(0, BigInteger.ONE));
            for (int p = 0; p < people; p++) {
                Map<Integer, BigInteger> next = new HashMap<>();
                for (Map.Entry<Integer, BigInteger> entry : now.entrySet()) {
                    for (int d = 0; d < days; d++) {
                        next.merge(entry.getKey() | set & 1 << d,
                            entry.getValue().multiply(BigInteger.valueOf(weights[p][d])), BigInteger::add);
                    }
                }
                now = next;
            }
            fraction("covers " + set, part -> x.covers(set, part), now.getOrDefault(set, BigInteger.ZERO), all);
        }
    }

    /** WAYS in which no two are NEAR by k: the first DAY that is taken, then each further one. */
    private BigInteger farApart(int k) {
        BigInteger sum = BigInteger.ZERO;
        for (int d = 0; d < days; d++) {
            for (int p = 0; p < people; p++) {
                sum = sum.add(further(d, d, everyone() ^ 1 << p, k, new HashMap<>())
                    .multiply(BigInteger.valueOf(weights[p][d])));
            }
        }
        return sum;
    }

    private BigInteger further(int first, int last, int left, int k, Map<Integer, BigInteger> known) {
        if (left == 0) {
            return first == last || first + days - last > k ? BigInteger.ONE : BigInteger.ZERO;
        }
        int key = last << 7 | left;
        if (known.containsKey(key)) {
            return known.get(key);
        }
        BigInteger sum = BigInteger.ZERO;
        for (int d = last + Math.max(k, 0) + 1; d < days; d++) {
            for (int p = 0; p < people; p++) {
                if ((left >> p & 1) == 1 && weights[p][d] > 0) {
                    sum = sum.add(further(first, d, left ^ 1 << p, k, known).multiply(BigInteger.valueOf(weights[p][d])));
                }
            }
        }
        known.put(key, sum);
        return sum;
    }
}
