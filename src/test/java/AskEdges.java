/** Boundary cases of whom to ask: promises 26 to 28. */
final class AskEdges {
    private static final int BAD = -2;
    private static final long NO = TwoOnOneDay.NO;
    private static final int PERSON = 0, TOLD = 2, LATE = 3, NEARLY = 4, SHY = 5;
    private static final int MIN = Integer.MIN_VALUE, MAX = Integer.MAX_VALUE;

    private AskEdges() { }

    static void all() {
        Sentences.sentence(26, "Of all sets of just many (1 .. 7) PEOPLE", AskEdges::justMany);
        Sentences.sentence(26, "each of whom COMES along with the others", AskEdges::whoComes);
        Sentences.sentence(26, "and of which there are WAYS", AskEdges::withWays);
        Sentences.sentence(26, "that by which THEY MEET likeliest, of like ones the least as bits", AskEdges::likeliestSet);
        Sentences.sentence(26, "what 0 that (-1: there is none), 1 above, 2 below the line, in lowest terms, how likely.",
            AskEdges::hostAnswers);
        Sentences.sentence(26, "NO: none such; (1, 2) there is none.", AskEdges::noHost);
        Sentences.sentence(27, "Of all sets (not empty) of such PEOPLE", AskEdges::suchSets);
        Sentences.sentence(27, "at least as likely as hundredth (1 .. 100) of 100", AskEdges::atLeastAsLikely);
        Sentences.sentence(27, "that by which asks of all, together, is least, of like ones the least as bits (what 0), that (1);",
            AskEdges::cheapest);
        Sentences.sentence(27, "-1: there is none. BAD.", AskEdges::noneCheap);
        Sentences.sentence(28, "Of a set (bits) pays of all together times HOW LIKELY THEY MEET (by all WAYS of that set), "
            + "less asks of all together.", AskEdges::wagers);
        Sentences.sentence(28, "FRACTION.", AskEdges::noWager);
        Sentences.sentence(Sentences.TERMS, "(above below 0, if it is)", AskEdges::belowNothing);
        Sentences.sentence(Sentences.TERMS, "(of pays, asks its TOLD DAY)", AskEdges::onToldDays);
    }

    private static void hosts(String what, TwoOnOneDay x, int many, long set, long above, long below) {
        Check.due(what + ": of " + many, x.host(many, 0), set);
        Check.due(what + ": of " + many + " above", x.host(many, 1), above);
        Check.due(what + ": of " + many + " below", x.host(many, 2), below);
    }

    private static void justMany() {
        TwoOnOneDay x = Made.persons(2, 7);
        hosts("seven of two days", x, 1, 1, 0, 1);
        hosts("seven of two days", x, 2, 3, 1, 2);
        hosts("seven of two days", x, 3, 7, 1, 1);
        hosts("seven of two days", x, 6, 63, 1, 1);
        hosts("seven of two days", x, 7, 127, 1, 1);
        for (int many : new int[] {0, -1, 8, MIN, MAX}) {
            hosts("no such many", x, many, NO, NO, NO);
        }
        TwoOnOneDay six = Made.persons(2, 6);
        hosts("six", six, 6, 63, 1, 1);
        hosts("six", six, 7, -1, NO, NO);
    }

    private static void whoComes() {
        // the last one is late, with no other; then two shy ones, with one other, and none
        TwoOnOneDay x = Made.persons(2, 2);
        x.person(LATE, 0, 0);
        hosts("late alone", x, 2, 3, 1, 2);
        hosts("late alone", x, 3, -1, NO, NO);
        TwoOnOneDay y = Made.told(2, 0);
        y.person(SHY, 2, 0);
        y.person(SHY, 3, 0);
        y.person(SHY, 5, 0);
        hosts("shy", y, 1, 1, 0, 1);
        hosts("shy", y, 2, 5, 1, 2);
        hosts("shy", y, 3, -1, NO, NO);
        // each of them must, not only one
        TwoOnOneDay z = Made.year(2);
        z.person(LATE, 3, 0);
        z.person(LATE, 0, 0);
        z.person(LATE, 1, 0);
        hosts("late ones", z, 2, 5, 1, 1);
        hosts("late ones", z, 3, -1, NO, NO);
        hosts("late ones", z, 1, 1, 0, 1);
    }

    private static void withWays() {
        TwoOnOneDay x = Made.one(1, LATE, 9, 0);
        hosts("no ways", x, 1, -1, NO, NO);
        x.person(PERSON, 0, 0);
        hosts("ways of one", x, 1, 2, 0, 1);
        hosts("ways of one", x, 2, -1, NO, NO);
        x.person(PERSON, 0, 0);
        hosts("ways of two", x, 2, 6, 1, 1);
        hosts("ways of two", x, 3, -1, NO, NO);
        Check.due("27 likewise", x.cheap(1, 0), 6);
    }

    private static void likeliestSet() {
        // alone nobody meets: all alike
        hosts("alike", Made.persons(24, 7), 1, 1, 0, 1);
        hosts("alike", Made.persons(24, 7), 2, 3, 1, 24);
        TwoOnOneDay last = Made.told(24, 0, 1, 2, 3, 4, 5, 5);
        hosts("the last two", last, 2, 96, 1, 1);
        hosts("the last two and the first", last, 3, 97, 1, 1);
        hosts("never", Made.told(24, 0, 1, 2, 3), 2, 3, 0, 1);
        // 1 of 2 beats 2 of 9, and 2 of 4 is as much: the least as bits
        TwoOnOneDay x = Made.persons(2, 2);
        x.person(TOLD, 0, 0);
        hosts("all 1 of 2", x, 2, 3, 1, 2);
        TwoOnOneDay y = Made.persons(3, 2);
        y.person(NEARLY, 0, 0);
        y.person(TOLD, 0, 0);
        hosts("1 of 2", y, 2, 12, 1, 2);
        hosts("two of them and one", y, 3, 13, 5, 6);
        // 2 of 5 for the first two, then 1 of 2
        TwoOnOneDay w = Made.weighing(Made.one(4, PERSON, 0, 0), "1+(day=0)");
        w.person(TOLD, 0, 0);
        w.person(NEARLY, 0, 0);
        hosts("1 of 2 ahead of 2 of 5", w, 2, 6, 1, 2);
        // hardly likelier, by numbers whose products pass 64 bits: the last two have a little more on day 0
        TwoOnOneDay z = Made.persons(24, 7);
        Made.weighing(z, "9-(4<who and 0<day)");
        hosts("the last two", z, 6, 111, 15863371, 32183136);
    }

    private static void hostAnswers() {
        TwoOnOneDay x = Made.persons(4, 3);
        Made.weighing(x, "4");
        hosts("in lowest terms", x, 3, 7, 5, 8);
        hosts("in lowest terms", x, 2, 3, 1, 4);
        hosts("there is none", x, 4, -1, NO, NO);
        hosts("nobody", new TwoOnOneDay(), 1, -1, NO, NO);
        hosts("nobody", new TwoOnOneDay(), 7, -1, NO, NO);
    }

    private static void noHost() {
        TwoOnOneDay x = Made.persons(2, 3);
        for (int what : new int[] {-1, 3, MIN, MAX}) {
            Check.due("what " + what, x.host(2, what), NO);
            Check.due("NO ahead of -1, what " + what, x.host(7, what), NO);
        }
        Check.due("NO ahead of -1", new TwoOnOneDay().host(8, 0), NO);
        Check.due("NO ahead of -1", new TwoOnOneDay().host(0, 0), NO);
    }

    private static void cheaps(String what, TwoOnOneDay x, int hundredth, int set, int asks) {
        Check.due(what + ": set by " + hundredth, x.cheap(hundredth, 0), set);
        Check.due(what + ": asks by " + hundredth, x.cheap(hundredth, 1), asks);
    }

    private static void suchSets() {
        cheaps("nobody", new TwoOnOneDay(), 1, -1, -1);
        cheaps("one alone", Made.persons(1, 1), 1, -1, -1);
        cheaps("two", Made.persons(1, 2), 100, 3, 2);
        TwoOnOneDay late = Made.persons(2, 1);
        late.person(LATE, 0, 0);
        cheaps("late with no other", late, 1, -1, -1);
        late.person(LATE, 1, 0);
        cheaps("late with one", late, 50, 5, 2);
        TwoOnOneDay none = Made.one(1, LATE, 9, 0);
        none.person(PERSON, 0, 0);
        cheaps("no ways", none, 1, -1, -1);
        cheaps("all seven alone", Made.told(24, 0, 1, 2, 3, 4, 5, 6), 1, -1, -1);
    }

    private static void atLeastAsLikely() {
        TwoOnOneDay x = Made.persons(4, 5);
        cheaps("just as likely", x, 25, 3, 2);
        cheaps("more", x, 26, 7, 3);
        cheaps("three", x, 62, 7, 3);
        cheaps("more than three", x, 63, 15, 4);
        cheaps("surely", x, 100, 31, 5);
        cheaps("1", x, 1, 3, 2);
        TwoOnOneDay most = Made.persons(24, 7);
        Made.weighing(most, "9");
        cheaps("seven of 24", most, 61, 127, 7);
        cheaps("seven of 24", most, 62, -1, -1);
    }

    private static void cheapest() {
        TwoOnOneDay x = Made.told(7, 6, 5, 4, 4, 4, 5, 6);
        Check.law(x, "weighs 1;pays 1;asks 40*(who<3)+9;");
        // both of day 4 but the first three: 9 and 9
        cheaps("two of the cheaper", x, 100, 24, 18);
        Check.law(x, "weighs 1;pays 1;asks 0;");
        cheaps("for nothing, the least as bits", x, 100, 12, 0);
        Check.law(x, "weighs 1;pays 1;asks 40;");
        cheaps("40 each, the least as bits", x, 100, 12, 80);
        Check.law(x, "weighs 1;pays 1;asks 9-who;");
        cheaps("the last of them cost less", x, 100, 24, 11);
        TwoOnOneDay y = Made.persons(1, 7);
        Check.law(y, "weighs 1;pays 1;asks 2*who+1-9*(who=6);");
        // the first asks 1, the second 3, the last one 4, then 3, then 2
        cheaps("the first two", y, 100, 3, 4);
        Check.law(y, "weighs 1;pays 1;asks 2*who+1-10*(who=6);");
        cheaps("of like ones the least as bits", y, 100, 3, 4);
        Check.law(y, "weighs 1;pays 1;asks 2*who+1-11*(who=6);");
        cheaps("the last one is cheaper", y, 100, 65, 3);
    }

    private static void noneCheap() {
        for (int hundredth : new int[] {0, -1, 101, MIN, MAX}) {
            cheaps("BAD ahead of -1", new TwoOnOneDay(), hundredth, BAD, BAD);
            cheaps("BAD", Made.persons(1, 2), hundredth, BAD, BAD);
        }
        for (int what : new int[] {-1, 2, MIN, MAX}) {
            Check.due("what " + what, Made.persons(1, 2).cheap(1, what), BAD);
            Check.due("BAD ahead of -1, what " + what, new TwoOnOneDay().cheap(1, what), BAD);
        }
        cheaps("none", Made.persons(24, 2), 5, -1, -1);
        cheaps("one", Made.persons(24, 2), 4, 3, 2);
    }

    private static void wagers() {
        TwoOnOneDay x = Made.persons(1, 7);
        Check.law(x, "weighs 9;pays 40;asks 0;");
        Check.fraction("all is won", part -> x.wager(127, part), 280, 1);
        Check.fraction("nothing for one alone", part -> x.wager(64, part), 0, 1);
        Check.fraction("no one", part -> x.wager(0, part), 0, 1);
        Check.law(x, "weighs 9;pays 0;asks 40;");
        Check.fraction("all is spent", part -> x.wager(127, part), -280, 1);
        Check.law(x, "weighs 9;pays 40;asks 40;");
        Check.fraction("as much", part -> x.wager(127, part), 0, 1);
        TwoOnOneDay y = Made.persons(24, 7);
        Check.law(y, "weighs 9;pays 40;asks 40;");
        // 280 times the 1744364160 of 4586471424 in which none meet is lost
        Check.fraction("seven of 24", part -> y.wager(127, part), -5888575, 55296);
        TwoOnOneDay z = Made.persons(4, 3);
        z.person(LATE, 0, 0);
        Check.law(z, "weighs 1;pays 10;asks 1;");
        Check.fraction("by ways of that set", part -> z.wager(3, part), 3, 1);
        Check.fraction("nor matters who comes", part -> z.wager(9, part), 3, 1);
    }

    private static void noWager() {
        TwoOnOneDay x = Made.persons(1, 7);
        for (int set : new int[] {-1, 128, 129, 256, MIN, MAX}) {
            Check.none("set " + set, part -> x.wager(set, part));
        }
        Check.none("one of nobody", part -> new TwoOnOneDay().wager(1, part));
        Check.none("a third of two", part -> Made.persons(2, 2).wager(4, part));
        TwoOnOneDay late = Made.one(1, LATE, 0, 0);
        Check.none("no ways", part -> late.wager(1, part));
    }

    private static void belowNothing() {
        TwoOnOneDay x = Made.persons(6, 2);
        // 4 times 1 of 6, less 2
        Check.fraction("below 0", part -> x.wager(3, part), -4, 3);
        Check.fraction("one alone", part -> x.wager(1, part), -1, 1);
    }

    private static void onToldDays() {
        TwoOnOneDay x = Made.year(24);
        x.person(SHY, 9, 23);
        x.person(SHY, 9, 0);
        x.set(1, 23, 9);
        Check.law(x, "weighs 1;pays day;asks born;");
        Check.fraction("pays 23 and 0, asks 9 and 0", part -> x.wager(3, part), -193, 24);
        Check.due("asks 9 and 0", x.cheap(4, 1), 9);
        x.move(0, 22);
        Check.fraction("pays 22 and 0, asks nothing", part -> x.wager(3, part), 11, 12);
        Check.due("asks nothing", x.cheap(4, 1), 0);
    }
}
