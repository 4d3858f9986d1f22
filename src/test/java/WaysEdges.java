/** Boundary cases of how likely something is, and of asking one by one: promises 13 to 25, and the Terms of these. */
final class WaysEdges {
    private static final int BAD = -2;
    private static final int PERSON = 0, SPRING = 1, TOLD = 2, LATE = 3, NEARLY = 4;
    private static final int MIN = Integer.MIN_VALUE, MAX = Integer.MAX_VALUE;

    private WaysEdges() { }

    static void all() {
        Sentences.sentence(Sentences.TERMS, "(once, if the set is empty)", WaysEdges::emptySet);
        Sentences.sentence(Sentences.TERMS, "NEAR by k: two whose DAYS are no more than k apart, round the YEAR (either way).",
            WaysEdges::roundTheYear);
        Sentences.sentence(Sentences.TERMS, "part 0 above, 1 below the line, in lowest terms", WaysEdges::lowestTerms);
        Sentences.sentence(Sentences.TERMS, "NO: none such;", WaysEdges::noSuchPart);
        fractions();
        Sentences.sentence(Sentences.TERMS, "what is below the line is 0.", WaysEdges::nothingBelow);
        Sentences.sentence(13, "HOW LIKELY many (1 .. 7) or more have one DAY, whichever.", WaysEdges::meets);
        Sentences.sentence(14, "HOW LIKELY of a set (bits) THEY MEET, by all WAYS of that set.", WaysEdges::among);
        Sentences.sentence(15, "HOW LIKELY a DAY is TAKEN.", WaysEdges::mine);
        Sentences.sentence(16, "The DAY of which that is most, of like ones the first.", WaysEdges::likeliest);
        Sentences.sentence(17, "just n (0 .. 21) PAIRS (sort 0)", WaysEdges::manyPairs);
        Sentences.sentence(17, "just n DAYS TAKEN (1).", WaysEdges::manyDays);
        Sentences.sentence(18, "The n (0 .. 21) of which that is most, of like ones the least.", WaysEdges::likely);
        Sentences.sentence(18, "BAD.", WaysEdges::likelyOfNothing);
        Sentences.sentence(19, "n times HOW LIKELY these are, all together.", WaysEdges::mean);
        Sentences.sentence(20, "HOW LIKELY all DAYS of a set (bits) are TAKEN.", WaysEdges::covers);
        Sentences.sentence(21, "HOW LIKELY any two are NEAR by days (0 .. 24).", WaysEdges::near);
        Sentences.sentence(22, "at least as likely as hundredth (1 .. 100) of 100", WaysEdges::needs);
        Sentences.sentence(22, "by all WAYS of these (some)", WaysEdges::needsSomeWays);
        Sentences.sentence(22, "-1: there is none. BAD.", WaysEdges::needsNone);
        Sentences.sentence(23, "it is with one that two first MEET, by all WAYS of those up to it.", WaysEdges::first);
        Sentences.sentence(24, "The one with whom that is most, if it is above 0, of like ones the first; -1: none.",
            WaysEdges::place);
        Sentences.sentence(25, "How many are asked ONE BY ONE in the mean.", WaysEdges::asked);
        Sentences.sentence(Sentences.TERMS, "till two of those who were asked MEET, or all were.", WaysEdges::tillAllWere);
    }

    /** Each promise that answers a FRACTION answers just its two parts. */
    private static void fractions() {
        TwoOnOneDay x = Made.persons(4, 3);
        Check.row(x, 0, 2, 0, 1, 1);
        twoParts(13, part -> x.meets(2, part), 5, 8);
        twoParts(14, part -> x.among(6, part), 1, 4);
        twoParts(15, part -> x.mine(3, part), 37, 64);
        twoParts(17, part -> x.many(0, 1, part), 9, 16);
        twoParts(17, part -> x.many(1, 2, part), 9, 16);
        twoParts(19, part -> x.mean(0, part), 3, 4);
        twoParts(19, part -> x.mean(1, part), 37, 16);
        twoParts(20, part -> x.covers(9, part), 9, 32);
        twoParts(21, part -> x.near(0, part), 5, 8);
        twoParts(23, part -> x.first(2, part), 3, 8);
        twoParts(25, x::asked, 11, 4);
        twoParts(28, part -> x.wager(3, part), -1, 1);
        twoParts(31, part -> x.comes(0, part), 1, 64);
        twoParts(32, part -> x.luck(0, part), 5, 8);
        int met = LotEdges.metBy(4, 3, 0, 7);
        twoParts(37, part -> x.odds(0, 7, part), met, 7);
    }

    private static void twoParts(int promise, Check.Fraction got, long above, long below) {
        Sentences.sentence(promise, "FRACTION", () -> {
            Check.due("above", got.part(0), above);
            Check.due("below", got.part(1), below);
            for (int part : new int[] {-1, 2, 3, MIN, MAX}) {
                Check.due("part " + part, got.part(part), TwoOnOneDay.NO);
            }
        });
    }

    private static void fraction(String what, Check.Fraction got, long above, long below) {
        Check.fraction(what, got, above, below);
    }

    private static void emptySet() {
        TwoOnOneDay x = new TwoOnOneDay();
        fraction("among", part -> x.among(0, part), 0, 1);
        fraction("nobody meets", part -> x.meets(2, part), 0, 1);
        fraction("no pairs", part -> x.many(0, 0, part), 1, 1);
        fraction("no days", part -> x.many(1, 0, part), 1, 1);
        fraction("covers none", part -> x.covers(0, part), 1, 1);
        fraction("covers one", part -> x.covers(1, part), 0, 1);
        fraction("wager", part -> x.wager(0, part), 0, 1);
        fraction("nobody is asked", x::asked, 0, 1);
        x.sheet(0, 2, 0);
        fraction("an empty list comes", part -> x.comes(0, part), 1, 1);
        // with people in it who have no ways at all, an empty set has its one
        TwoOnOneDay y = Made.one(1, LATE, 0, 0);
        fraction("among", part -> y.among(0, part), 0, 1);
        fraction("wager", part -> y.wager(0, part), 0, 1);
    }

    private static void roundTheYear() {
        for (int days = 2; days <= 24; days++) {
            for (int d = 1; d < days; d++) {
                TwoOnOneDay x = Made.told(days, 0, d);
                int apart = Math.min(d, days - d);
                String what = "0 and " + d + " of " + days + " by ";
                fraction(what + apart, part -> x.near(apart, part), 1, 1);
                fraction(what + (apart - 1), part -> x.near(apart - 1, part), 0, 1);
            }
        }
        TwoOnOneDay y = Made.told(24, 23, 0);
        fraction("the last and the first by 1", part -> y.near(1, part), 1, 1);
        fraction("the last and the first by 0", part -> y.near(0, part), 0, 1);
        TwoOnOneDay three = Made.told(24, 0, 8, 16);
        fraction("three by 7", part -> three.near(7, part), 0, 1);
        fraction("three by 8", part -> three.near(8, part), 1, 1);
        TwoOnOneDay four = Made.told(24, 22, 3, 9, 15);
        fraction("22 and 3 by 4", part -> four.near(4, part), 0, 1);
        fraction("22 and 3 by 5", part -> four.near(5, part), 1, 1);
    }

    private static void lowestTerms() {
        TwoOnOneDay x = Made.persons(24, 7);
        Made.weighing(x, "9");
        fraction("surely", part -> x.meets(1, part), 1, 1);
        fraction("never", part -> x.many(0, 14, part), 0, 1);
        fraction("all on one day", part -> x.meets(7, part), 1, 191102976);
        fraction("all on a day", part -> x.many(1, 1, part), 1, 191102976);
        fraction("below 0", part -> x.wager(1, part), -1, 1);
        fraction("below 0, not cut", part -> x.wager(3, part), -11, 6);
    }

    private static void noSuchPart() {
        TwoOnOneDay x = Made.persons(3, 3);
        Check.row(x, 0, 2, 0, 1, 2);
        Check.Fraction[] all = {
            part -> x.meets(2, part), part -> x.among(3, part), part -> x.mine(0, part), part -> x.many(0, 1, part),
            part -> x.many(1, 2, part), part -> x.mean(0, part), part -> x.mean(1, part), part -> x.covers(1, part),
            part -> x.near(0, part), part -> x.first(1, part), x::asked, part -> x.wager(3, part),
            part -> x.comes(0, part), part -> x.luck(0, part), part -> x.odds(0, 9, part),
        };
        for (int i = 0; i < all.length; i++) {
            Check.isTrue("fraction " + i + " has two parts", all[i].part(0) != TwoOnOneDay.NO && all[i].part(1) > 0);
            for (int part : new int[] {-1, 2, MIN, MAX}) {
                Check.due("fraction " + i + ", part " + part, all[i].part(part), TwoOnOneDay.NO);
            }
        }
    }

    private static void nothingBelow() {
        TwoOnOneDay x = Made.persons(1, 2);
        x.person(LATE, 9, 0);
        Check.row(x, 0, 2, 0, 0, 0);
        Check.Fraction[] none = {
            part -> x.meets(1, part), part -> x.meets(2, part), part -> x.among(7, part), part -> x.among(4, part),
            part -> x.mine(0, part), part -> x.many(0, 0, part), part -> x.many(1, 1, part), part -> x.mean(0, part),
            part -> x.mean(1, part), part -> x.covers(0, part), part -> x.covers(1, part), part -> x.near(0, part),
            part -> x.near(24, part), part -> x.first(2, part), x::asked, part -> x.wager(4, part),
            part -> x.wager(7, part), part -> x.comes(0, part), part -> x.luck(0, part),
        };
        for (int i = 0; i < none.length; i++) {
            Check.none("fraction " + i, none[i]);
        }
        // where it is told that others count, there are ways still
        fraction("among the others", part -> x.among(3, part), 1, 1);
        fraction("first, up to it", part -> x.first(1, part), 1, 1);
        fraction("wager of the others", part -> x.wager(3, part), 2, 1);
        fraction("odds are of seeds", part -> x.odds(0, 1, part), 1, 1);
    }

    private static void meets() {
        TwoOnOneDay x = Made.persons(2, 7);
        fraction("one", part -> x.meets(1, part), 1, 1);
        fraction("four of seven on two days", part -> x.meets(4, part), 1, 1);
        fraction("five", part -> x.meets(5, part), 29, 64);
        fraction("six", part -> x.meets(6, part), 1, 8);
        fraction("seven", part -> x.meets(7, part), 1, 64);
        for (int many : new int[] {0, -1, 8, MIN, MAX}) {
            Check.none("many " + many, part -> x.meets(many, part));
        }
        TwoOnOneDay six = Made.persons(1, 6);
        fraction("six of six", part -> six.meets(6, part), 1, 1);
        fraction("seven of six", part -> six.meets(7, part), 0, 1);
        TwoOnOneDay one = Made.persons(1, 1);
        fraction("one of one", part -> one.meets(1, part), 1, 1);
        fraction("two of one", part -> one.meets(2, part), 0, 1);
        TwoOnOneDay nobody = new TwoOnOneDay();
        fraction("one of nobody", part -> nobody.meets(1, part), 0, 1);
        fraction("seven of nobody", part -> nobody.meets(7, part), 0, 1);
        // a day need not be the first of them
        TwoOnOneDay last = Made.told(24, 0, 23, 1, 23, 2, 23, 3);
        fraction("three on the last day", part -> last.meets(3, part), 1, 1);
        fraction("four on the last day", part -> last.meets(4, part), 0, 1);
    }

    private static void among() {
        TwoOnOneDay x = Made.persons(4, 7);
        fraction("none", part -> x.among(0, part), 0, 1);
        for (int p = 0; p < 7; p++) {
            int one = 1 << p;
            fraction("one alone", part -> x.among(one, part), 0, 1);
        }
        fraction("the first and the last", part -> x.among(65, part), 1, 4);
        fraction("five of four days", part -> x.among(31, part), 1, 1);
        fraction("four of four days", part -> x.among(120, part), 29, 32);
        fraction("all seven", part -> x.among(127, part), 1, 1);
        for (int set : new int[] {-1, 128, 129, 255, 256, MIN, MAX}) {
            Check.none("set " + set, part -> x.among(set, part));
        }
        TwoOnOneDay two = Made.persons(4, 2);
        fraction("all two", part -> two.among(3, part), 1, 4);
        Check.none("a third", part -> two.among(4, part));
        Check.none("a third beside", part -> two.among(7, part));
        Check.none("one of nobody", part -> new TwoOnOneDay().among(1, part));
    }

    private static void mine() {
        TwoOnOneDay x = Made.persons(3, 2);
        fraction("the first day", part -> x.mine(0, part), 5, 9);
        fraction("the last day", part -> x.mine(2, part), 5, 9);
        for (int d : new int[] {-1, 3, 23, 24, MIN, MAX}) {
            Check.none("day " + d, part -> x.mine(d, part));
        }
        fraction("nobody's", part -> new TwoOnOneDay().mine(11, part), 0, 1);
        fraction("of one day", part -> Made.persons(1, 7).mine(0, part), 1, 1);
        fraction("never", part -> Made.told(24, 22).mine(23, part), 0, 1);
        fraction("the last of 24", part -> Made.told(24, 23).mine(23, part), 1, 1);
    }

    private static void likeliest() {
        Check.due("nobody", new TwoOnOneDay().likeliest(), 0);
        Check.due("all alike", Made.persons(24, 7).likeliest(), 0);
        Check.due("the last", Made.told(24, 23).likeliest(), 23);
        Check.due("two alike, the first", Made.told(24, 23, 4, 9).likeliest(), 4);
        Check.due("one day", Made.persons(1, 3).likeliest(), 0);
        Check.due("nobody has ways", Made.one(1, LATE, 0, 0).likeliest(), 0);
        // a late one alike on all odd days
        Check.due("odd days", Made.one(24, LATE, 0, 0).likeliest(), 1);
        // a little more: 1 of 2 in a day of 9, 9 of 18 and one more
        TwoOnOneDay x = Made.one(2, SPRING, 0, 0);
        Made.weighing(x, "8+day");
        Check.due("8 of 17 and 9 of 17", x.likeliest(), 1);
        Made.weighing(x, "9-day");
        Check.due("9 of 17 and 8 of 17", x.likeliest(), 0);
    }

    private static void manyPairs() {
        TwoOnOneDay x = Made.persons(1, 7);
        fraction("21", part -> x.many(0, 21, part), 1, 1);
        fraction("20", part -> x.many(0, 20, part), 0, 1);
        fraction("0", part -> x.many(0, 0, part), 0, 1);
        for (int n : new int[] {-1, 22, MIN, MAX}) {
            Check.none(n + " pairs", part -> x.many(0, n, part));
        }
        for (int sort : new int[] {-1, 2, MIN, MAX}) {
            Check.none("sort " + sort, part -> x.many(sort, 0, part));
        }
        TwoOnOneDay y = Made.persons(2, 7);
        // by 4 and 3: 6 and 3 pairs; by 5 and 2: 10 and 1; by 6 and 1: 15; by 7: 21
        fraction("9", part -> y.many(0, 9, part), 35, 64);
        fraction("11", part -> y.many(0, 11, part), 21, 64);
        fraction("15", part -> y.many(0, 15, part), 7, 64);
        fraction("21", part -> y.many(0, 21, part), 1, 64);
        fraction("8", part -> y.many(0, 8, part), 0, 1);
        TwoOnOneDay nobody = new TwoOnOneDay();
        fraction("nobody: 0", part -> nobody.many(0, 0, part), 1, 1);
        fraction("nobody: 1", part -> nobody.many(0, 1, part), 0, 1);
        fraction("one alone: 0", part -> Made.persons(1, 1).many(0, 0, part), 1, 1);
    }

    private static void manyDays() {
        TwoOnOneDay x = Made.told(24, 0, 1, 2, 3, 4, 5, 23);
        fraction("7", part -> x.many(1, 7, part), 1, 1);
        fraction("6", part -> x.many(1, 6, part), 0, 1);
        fraction("8", part -> x.many(1, 8, part), 0, 1);
        fraction("21", part -> x.many(1, 21, part), 0, 1);
        for (int n : new int[] {-1, 22, MIN, MAX}) {
            Check.none(n + " days", part -> x.many(1, n, part));
        }
        TwoOnOneDay y = Made.persons(1, 7);
        fraction("one day", part -> y.many(1, 1, part), 1, 1);
        fraction("none", part -> y.many(1, 0, part), 0, 1);
        TwoOnOneDay nobody = new TwoOnOneDay();
        fraction("nobody: 0", part -> nobody.many(1, 0, part), 1, 1);
        fraction("nobody: 1", part -> nobody.many(1, 1, part), 0, 1);
    }

    private static void likely() {
        TwoOnOneDay nobody = new TwoOnOneDay();
        Check.due("pairs of nobody", nobody.likely(0), 0);
        Check.due("days of nobody", nobody.likely(1), 0);
        TwoOnOneDay seven = Made.persons(1, 7);
        Check.due("pairs of seven on one day", seven.likely(0), 21);
        Check.due("days of seven on one day", seven.likely(1), 1);
        Check.due("days of seven apart", Made.told(24, 0, 1, 2, 3, 4, 5, 6).likely(1), 7);
        Check.due("pairs of seven apart", Made.told(24, 0, 1, 2, 3, 4, 5, 6).likely(0), 0);
        Check.due("pairs, of like ones the least", Made.persons(2, 2).likely(0), 0);
        Check.due("days, of like ones the least", Made.persons(2, 2).likely(1), 1);
        TwoOnOneDay none = Made.one(1, LATE, 0, 0);
        Check.due("pairs without ways", none.likely(0), 0);
        Check.due("days without ways", none.likely(1), 0);
        Check.due("pairs of seven on two days", Made.persons(2, 7).likely(0), 9);
        // one and one, or two: alike but for one way
        TwoOnOneDay x = Made.one(2, PERSON, 0, 0);
        x.person(NEARLY, 1, 1);
        Made.weighing(x, "1+8*(day=0)");
        Check.due("a pair: 19 of 30", x.likely(0), 1);
        Check.due("one day", x.likely(1), 1);
    }

    private static void likelyOfNothing() {
        for (int sort : new int[] {-1, 2, MIN, MAX}) {
            Check.due("sort " + sort, Made.persons(2, 2).likely(sort), BAD);
        }
    }

    private static void mean() {
        TwoOnOneDay nobody = new TwoOnOneDay();
        fraction("pairs of nobody", part -> nobody.mean(0, part), 0, 1);
        fraction("days of nobody", part -> nobody.mean(1, part), 0, 1);
        TwoOnOneDay seven = Made.persons(1, 7);
        fraction("all pairs", part -> seven.mean(0, part), 21, 1);
        fraction("one day", part -> seven.mean(1, part), 1, 1);
        fraction("pairs of seven on two days", part -> Made.persons(2, 7).mean(0, part), 21, 2);
        fraction("days of seven of two", part -> Made.persons(2, 7).mean(1, part), 127, 64);
        fraction("pairs of seven on 24 days", part -> Made.persons(24, 7).mean(0, part), 7, 8);
        fraction("days of seven told", part -> Made.told(24, 0, 1, 2, 3, 4, 5, 6).mean(1, part), 7, 1);
        for (int sort : new int[] {-1, 2, MIN, MAX}) {
            Check.none("sort " + sort, part -> seven.mean(sort, part));
        }
    }

    private static void covers() {
        TwoOnOneDay x = Made.persons(7, 7);
        fraction("none", part -> x.covers(0, part), 1, 1);
        fraction("all seven", part -> x.covers(127, part), 720, 117649);
        for (int set : new int[] {-1, 128, 129, 256, 1 << 24, MIN, MAX}) {
            Check.none("set " + set, part -> x.covers(set, part));
        }
        TwoOnOneDay y = Made.persons(24, 7);
        fraction("all of 24", part -> y.covers((1 << 24) - 1, part), 0, 1);
        fraction("eight days", part -> y.covers(255, part), 0, 1);
        fraction("the first and the last", part -> Made.told(24, 0, 23).covers(1 | 1 << 23, part), 1, 1);
        fraction("one that is not taken", part -> Made.told(24, 0, 23).covers(3, part), 0, 1);
        Check.none("a day behind the last", part -> y.covers(1 << 24, part));
        Check.none("a day behind the last, and one more", part -> y.covers(1 << 24 | 1, part));
        TwoOnOneDay one = Made.persons(1, 1);
        fraction("the only day", part -> one.covers(1, part), 1, 1);
        Check.none("one behind the only day", part -> one.covers(2, part));
        fraction("nobody", part -> new TwoOnOneDay().covers(1 << 11, part), 0, 1);
    }

    private static void near() {
        TwoOnOneDay x = Made.persons(24, 2);
        fraction("by 0", part -> x.near(0, part), 1, 24);
        fraction("by 1", part -> x.near(1, part), 1, 8);
        fraction("by 11", part -> x.near(11, part), 23, 24);
        fraction("by 12", part -> x.near(12, part), 1, 1);
        fraction("by 24", part -> x.near(24, part), 1, 1);
        for (int days : new int[] {-1, 25, MIN, MAX}) {
            Check.none("by " + days, part -> x.near(days, part));
        }
        fraction("nobody by 24", part -> new TwoOnOneDay().near(24, part), 0, 1);
        fraction("one alone by 24", part -> Made.persons(1, 1).near(24, part), 0, 1);
        fraction("two of one day by 0", part -> Made.persons(1, 2).near(0, part), 1, 1);
        fraction("two of one day by 24", part -> Made.persons(1, 2).near(24, part), 1, 1);
        fraction("two of two days by 0", part -> Made.persons(2, 2).near(0, part), 1, 2);
        fraction("two of two days by 1", part -> Made.persons(2, 2).near(1, part), 1, 1);
        fraction("seven of 24 by 0", part -> Made.persons(24, 7).near(0, part), 274123, 442368);
        fraction("seven by 2", part -> Made.told(24, 0, 3, 6, 9, 12, 15, 18).near(2, part), 0, 1);
        fraction("seven by 3", part -> Made.told(24, 0, 3, 6, 9, 12, 15, 18).near(3, part), 1, 1);
        fraction("seven by 2, round the year", part -> Made.told(24, 0, 4, 7, 10, 13, 16, 22).near(2, part), 1, 1);
        // each three days behind the last one: 3 times 5040 ways of 21 to the seventh
        fraction("seven times three days", part -> Made.persons(21, 7).near(2, part), 9529489, 9529569);
    }

    private static void needs() {
        TwoOnOneDay x = Made.persons(4, 7);
        Check.due("just as likely: 25", x.needs(25), 2);
        Check.due("more: 26", x.needs(26), 3);
        // three meet in 10 of 16
        Check.due("62", x.needs(62), 3);
        Check.due("63", x.needs(63), 4);
        Check.due("surely", x.needs(100), 5);
        Check.due("1", x.needs(1), 2);
        Check.due("of one day", Made.persons(1, 2).needs(100), 2);
        Check.due("all seven", Made.told(24, 0, 1, 2, 3, 4, 5, 5).needs(100), 7);
        Check.due("two of 24 days: 4 of 100", Made.persons(24, 2).needs(4), 2);
        Check.due("two of 24 days: 5 of 100", Made.persons(24, 2).needs(5), -1);
        // products that pass 64 bits, were they made: 24 days of 9
        TwoOnOneDay most = Made.persons(24, 7);
        Made.weighing(most, "9");
        Check.due("seven of 24", most.needs(61), 7);
        Check.due("seven of 24", most.needs(62), -1);
    }

    private static void needsSomeWays() {
        TwoOnOneDay x = Made.persons(4, 2);
        Made.weighing(x, "who<2");
        x.person(PERSON, 0, 0);
        x.person(PERSON, 0, 0);
        Check.due("two have ways", x.needs(25), 2);
        Check.due("three have none", x.needs(26), -1);
        Check.due("three have none", x.needs(100), -1);
        TwoOnOneDay y = Made.one(1, LATE, 0, 0);
        y.person(PERSON, 0, 0);
        y.person(PERSON, 0, 0);
        Check.due("the first has none", y.needs(1), -1);
    }

    private static void needsNone() {
        Check.due("nobody", new TwoOnOneDay().needs(1), -1);
        Check.due("one alone", Made.persons(1, 1).needs(1), -1);
        Check.due("never", Made.told(24, 0, 1, 2, 3, 4, 5, 6).needs(1), -1);
        Check.due("not surely", Made.persons(7, 7).needs(100), -1);
        for (int hundredth : new int[] {0, -1, 101, MIN, MAX}) {
            Check.due("hundredth " + hundredth, Made.persons(1, 2).needs(hundredth), BAD);
            Check.due("BAD ahead of -1, " + hundredth, new TwoOnOneDay().needs(hundredth), BAD);
        }
    }

    private static void first() {
        TwoOnOneDay x = Made.persons(2, 7);
        fraction("the first", part -> x.first(0, part), 0, 1);
        fraction("the second", part -> x.first(1, part), 1, 2);
        fraction("the third", part -> x.first(2, part), 1, 2);
        fraction("the fourth", part -> x.first(3, part), 0, 1);
        fraction("the last", part -> x.first(6, part), 0, 1);
        fraction("the last, surely", part -> Made.told(24, 0, 1, 2, 3, 4, 5, 0).first(6, part), 1, 1);
        for (int p : new int[] {-1, 7, MIN, MAX}) {
            Check.none("one " + p, part -> x.first(p, part));
        }
        Check.none("nobody", part -> new TwoOnOneDay().first(0, part));
        Check.none("one behind the last", part -> Made.persons(2, 2).first(2, part));
        TwoOnOneDay y = Made.persons(2, 2);
        y.person(NEARLY, 8, 0);
        Made.weighing(y, "1+7*(day=1)");
        // 64 and 1 of 81 on one day; of 16 apart the third meets one by all its ways
        fraction("the third, by ways up to it", part -> y.first(2, part), 16, 81);
        TwoOnOneDay late = Made.persons(1, 2);
        late.person(LATE, 0, 0);
        late.person(PERSON, 0, 0);
        fraction("up to the second there are ways", part -> late.first(1, part), 1, 1);
        Check.none("up to the third there are none", part -> late.first(2, part));
        Check.none("nor up to the fourth", part -> late.first(3, part));
    }

    private static void place() {
        Check.due("nobody", new TwoOnOneDay().place(), -1);
        Check.due("one alone", Made.persons(1, 1).place(), -1);
        Check.due("never", Made.told(24, 0, 1, 2, 3, 4, 5, 6).place(), -1);
        Check.due("the last", Made.told(24, 0, 1, 2, 3, 4, 5, 5).place(), 6);
        Check.due("of like ones the first", Made.persons(2, 7).place(), 1);
        Check.due("the third", Made.persons(4, 7).place(), 2);
        TwoOnOneDay x = Made.persons(1, 2);
        x.person(LATE, 0, 0);
        Check.due("ways up to the second alone", x.place(), 1);
        TwoOnOneDay y = Made.one(1, LATE, 0, 0);
        y.person(PERSON, 0, 0);
        Check.due("no ways", y.place(), -1);
        // 1 of 2 and 1 of 2, the second by ten times as many ways
        TwoOnOneDay w = Made.persons(2, 2);
        w.person(SPRING, 9, 0);
        Check.due("by all ways of those up to it", w.place(), 1);
        // hardly above 0
        TwoOnOneDay z = Made.told(24, 0, 1, 2, 3, 4, 5);
        z.person(PERSON, 0, 0);
        Made.weighing(z, "1+8*(5<day)");
        Check.due("hardly above 0", z.place(), 6);
    }

    private static void asked() {
        fraction("nobody", new TwoOnOneDay()::asked, 0, 1);
        fraction("one alone", Made.persons(24, 1)::asked, 1, 1);
        fraction("two", Made.persons(24, 2)::asked, 2, 1);
        fraction("seven of one day", Made.persons(1, 7)::asked, 2, 1);
        fraction("seven of two days", Made.persons(2, 7)::asked, 5, 2);
        Check.none("no ways", Made.one(1, LATE, 0, 0)::asked);
        // ways of those who need not be asked count too
        TwoOnOneDay x = Made.persons(1, 2);
        x.person(TOLD, 0, 0);
        fraction("the third is not asked", x::asked, 2, 1);
        x.person(LATE, 0, 0);
        Check.none("by all ways of all", x::asked);
    }

    private static void tillAllWere() {
        fraction("seven who never meet", Made.told(24, 0, 1, 2, 3, 4, 5, 6)::asked, 7, 1);
        fraction("with the last", Made.told(24, 0, 1, 2, 3, 4, 5, 5)::asked, 7, 1);
        fraction("with the last but one", Made.told(24, 0, 1, 2, 3, 4, 4, 5)::asked, 6, 1);
        fraction("with the second", Made.told(24, 0, 0, 2, 3, 4, 4, 5)::asked, 2, 1);
        fraction("three of three days: 8 thirds", Made.persons(3, 3)::asked, 8, 3);
    }
}
