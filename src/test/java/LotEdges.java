/** Boundary cases of lists by lot and of images: promises 35 to 39, and the Terms of these. */
final class LotEdges {
    private static final int BAD = -2, STATE = -3, FULL = -4, NO_SUCH_ONE = -5, NOT_TOLD = -7;
    private static final int PERSON = 0, TOLD = 2, LATE = 3;
    private static final int INTS = 2;
    private static final int MIN = Integer.MIN_VALUE, MAX = Integer.MAX_VALUE;

    private LotEdges() { }

    static void all() {
        Sentences.sentence(Sentences.TERMS, "DRAWN by a SEED (0 .. 99999)", LotEdges::seeds);
        Sentences.sentence(Sentences.TERMS, "it has the first DAY such that WEIGHTS of all DAYS up to it, together, are above r",
            LotEdges::firstDayAbove);
        Sentences.sentence(Sentences.TERMS, "(no DAY, if all are 0)", LotEdges::noDay);
        Sentences.sentence(Sentences.TERMS, "of each, by numbers, a LOT", LotEdges::aLotOfEach);
        Sentences.sentence(Sentences.TERMS, "the first is (SEED and 1) times 48271 modulo 2147483647", LotEdges::firstLot);
        Sentences.sentence(Sentences.TERMS, "each further one the last times 48271 modulo 2147483647.", LotEdges::furtherLots);
        Sentences.sentence(35, "the DAY of one (-1: it has none).", LotEdges::drawn);
        Sentences.sentence(35, "-5: no such one; -7: SEED.", LotEdges::notDrawn);
        Sentences.sentence(36, "A SHEET truly becomes the DRAWN DAYS of all (ints; -1: none): how many.", LotEdges::film);
        Sentences.sentence(36, "BAD.", LotEdges::noFilm);
        Sentences.sentence(37, "In how many of so many (1 .. 50) seeds", LotEdges::howManySeeds);
        Sentences.sentence(37, "SEED and each 1 more (they may pass 99999)", LotEdges::passingSeeds);
        Sentences.sentence(37, "THEY MEET, by so many. FRACTION.", LotEdges::odds);
        Sentences.sentence(38, "AN IMAGE is kept: how many PEOPLE.", LotEdges::image);
        Sentences.sentence(39, "All that it keeps is as in THE IMAGE", LotEdges::back);
        Sentences.sentence(39, "PEOPLE who came since are none: how many there are.", LotEdges::whoCameSince);
        Sentences.sentence(39, "STATE: there is none.", LotEdges::noImage);
        Sentences.sentence(Sentences.TERMS,
            "AN IMAGE keeps the YEAR, how many are BORN, TOLD DAYS, how many PEOPLE there are, THE LAW.", LotEdges::kept);
    }

    private static long lot(int seed, int p) {
        long lot = seed + 1L;
        for (int i = 0; i <= p; i++) {
            lot = lot * 48271 % 2147483647;
        }
        return lot;
    }

    private static void seeds() {
        TwoOnOneDay x = Made.persons(24, 7);
        for (int seed : new int[] {0, 1, 50000, 99998, 99999}) {
            for (int p = 0; p < 7; p++) {
                Check.due("seed " + seed + " of " + p, x.drawn(seed, p), lot(seed, p) % 24);
            }
        }
        for (int seed : new int[] {-1, 100000, MIN, MAX}) {
            Check.due("seed " + seed, x.drawn(seed, 0), NOT_TOLD);
            Check.due("seed " + seed, x.film(0, seed), BAD);
            Check.none("seed " + seed, part -> x.odds(seed, 1, part));
        }
    }

    /** One whose first lots by seeds 0 .. 3 leave 3, 2, 1 and 0 of 4. */
    private static void firstDayAbove() {
        TwoOnOneDay x = Made.persons(2, 1);
        Made.weighing(x, "1+2*day");
        int[] due = {1, 1, 1, 0};
        Made.weighing(x, "3-2*day");
        int[] turned = {1, 0, 0, 0};
        for (int seed = 0; seed < 4; seed++) {
            x.force(1);
            Check.due("1 and 3, seed " + seed, x.drawn(seed, 0), due[seed]);
            x.force(2);
            Check.due("3 and 1, seed " + seed, x.drawn(seed, 0), turned[seed]);
        }
        Made.weighing(x, "4*day");
        Check.due("0 and 4: r is 0", x.drawn(3, 0), 1);
        Check.due("0 and 4: r is 3", x.drawn(0, 0), 1);
        Made.weighing(x, "4-4*day");
        Check.due("4 and 0: r is 3", x.drawn(0, 0), 0);
        Check.due("4 and 0: r is 0", x.drawn(3, 0), 0);
        TwoOnOneDay y = Made.persons(24, 1);
        Made.weighing(y, "4*(day=23)");
        Check.due("the last day alone", y.drawn(0, 0), 23);
        Made.weighing(y, "1*(day=3)+3*(day=22)");
        Check.due("two days apart: r is 0", y.drawn(3, 0), 3);
        Check.due("two days apart: r is 1", y.drawn(2, 0), 22);
        Check.due("two days apart: r is 3", y.drawn(0, 0), 22);
    }

    private static void noDay() {
        TwoOnOneDay x = Made.one(1, LATE, 9, 0);
        x.person(PERSON, 0, 0);
        Check.due("a late one of one day", x.drawn(0, 0), -1);
        Check.due("the other one", x.drawn(0, 1), 0);
        TwoOnOneDay y = Made.persons(24, 7);
        Made.weighing(y, "0");
        for (int p = 0; p < 7; p++) {
            Check.due("all weigh nothing", y.drawn(99999, p), -1);
        }
    }

    private static void aLotOfEach() {
        // who has no day has a lot all the same, and so has one whose day is sure
        TwoOnOneDay x = Made.persons(24, 7);
        Made.weighing(x, "not (who=0 or who=3)");
        TwoOnOneDay y = Made.told(24, 5, 5);
        y.person(PERSON, 0, 0);
        for (int seed : new int[] {0, 7, 99999}) {
            for (int p = 0; p < 7; p++) {
                Check.due("seed " + seed + " of " + p, x.drawn(seed, p), p == 0 || p == 3 ? -1 : lot(seed, p) % 24);
            }
            Check.due("sure, seed " + seed, y.drawn(seed, 1), 5);
            Check.due("behind those who are sure, seed " + seed, y.drawn(seed, 2), lot(seed, 2) % 24);
        }
    }

    private static void firstLot() {
        TwoOnOneDay x = Made.persons(10, 1);
        Check.due("48271", x.drawn(0, 0), 1);
        Check.due("96542", x.drawn(1, 0), 2);
        // 44488 times 48271 is below 2147483647, 44489 times is above it by 44872
        Check.due("2147480248", x.drawn(44487, 0), 8);
        Check.due("44872", x.drawn(44488, 0), 2);
        // 88977 times it is above twice 2147483647 by 41473, and above all 32 bits
        Check.due("41473", x.drawn(88976, 0), 3);
        Check.due("89744", x.drawn(88977, 0), 4);
        // 100000 times it less twice 2147483647
        Check.due("532132706", x.drawn(99999, 0), 6);
    }

    private static void furtherLots() {
        TwoOnOneDay x = Made.persons(10, 7);
        int[] lots = {48271, 182605794, 1291394886, 1914720637, 2078669041, 407355683, 1105902161};
        for (int p = 0; p < 7; p++) {
            Check.due("of " + p, x.drawn(0, p), lots[p] % 10);
        }
    }

    private static void drawn() {
        TwoOnOneDay x = Made.persons(1, 2);
        x.person(LATE, 0, 0);
        Check.due("one day", x.drawn(0, 0), 0);
        Check.due("one day", x.drawn(99999, 1), 0);
        Check.due("none", x.drawn(0, 2), -1);
        Check.due("the last one of seven", Made.told(24, 0, 1, 2, 3, 4, 5, 23).drawn(5, 6), 23);
    }

    private static void notDrawn() {
        TwoOnOneDay x = Made.persons(12, 2);
        for (int p : new int[] {-1, 2, 7, MIN, MAX}) {
            Check.due("one " + p, x.drawn(0, p), NO_SUCH_ONE);
            Check.due("-5 ahead of -7, one " + p, x.drawn(-1, p), NO_SUCH_ONE);
        }
        for (int seed : new int[] {-1, 100000, MIN, MAX}) {
            Check.due("seed " + seed, x.drawn(seed, 1), NOT_TOLD);
        }
        TwoOnOneDay late = Made.one(1, LATE, 0, 0);
        Check.due("-7 ahead of -1", late.drawn(100000, 0), NOT_TOLD);
        Check.due("nobody", new TwoOnOneDay().drawn(0, 0), NO_SUCH_ONE);
    }

    private static void film() {
        TwoOnOneDay x = Made.told(24, 5, 23, 0);
        for (int s = 0; s < 4; s++) {
            Check.due("of three, sheet " + s, x.film(s, 99999), 3);
            Check.due("their days", x.list(s, 2), 1 << 5 | 1 << 23 | 1);
            Check.due("in their order", x.judge(s), -1);
        }
        x.sheet(1, 0, 40);
        x.film(1, 0);
        Check.due("ints, whatever it was", x.copy(1, 0, 0, 0, 3), 3);
        Check.due("of that size, whatever it was", x.copy(1, 0, 0, 0, 4), -12);
        Check.due("of that size", x.cell(1, 3, 0), -12);
        TwoOnOneDay none = Made.one(1, LATE, 0, 0);
        Check.due("one who has no day", none.film(0, 0), 1);
        Check.due("it is -1, no day", none.judge(0), BAD);
        none.cell(0, 0, 0);
        Check.due("a day", none.judge(0), 0);
        TwoOnOneDay nobody = new TwoOnOneDay();
        nobody.sheet(2, 0, 7);
        Check.due("nobody", nobody.film(2, 5), 0);
        Check.due("there is a sheet of size 0", nobody.cell(2, 0, 0), -12);
        Check.due("of ints", nobody.peopleBy(2, INTS, 0, 0), 0);
        Check.due("a list of nobody", nobody.judge(2), -1);
        TwoOnOneDay seven = Made.persons(24, 7);
        Check.due("seven", seven.film(3, 0), 7);
        for (int p = 0; p < 7; p++) {
            Check.row(seven, 0, INTS, new int[7]);
            seven.copy(3, p, 0, 0, 1);
            Check.due("the day of " + p, seven.list(0, 2), 1 | 1 << seven.drawn(0, p));
        }
    }

    private static void noFilm() {
        TwoOnOneDay x = Made.persons(12, 2);
        for (int s : new int[] {-1, 4, MIN, MAX}) {
            Check.due("sheet " + s, x.film(s, 0), BAD);
        }
        for (int seed : new int[] {-1, 100000, MIN, MAX}) {
            Check.due("seed " + seed, x.film(0, seed), BAD);
        }
        Check.due("no sheet came", x.judge(0), -11);
    }

    /** By how many of these seeds two of some PERSONS have one DAY, told by lots alone. */
    static int metBy(int days, int people, int seed, int seeds) {
        int met = 0;
        for (int i = seed; i < seed + seeds; i++) {
            boolean meets = false;
            for (int p = 0; p < people; p++) {
                for (int q = 0; q < p; q++) {
                    meets |= lot(i, p) % days == lot(i, q) % days;
                }
            }
            met += meets ? 1 : 0;
        }
        return met;
    }

    private static int common(int a, int b) {
        return b == 0 ? a : common(b, a % b);
    }

    private static void oddsAsDue(int days, int people, int seed, int seeds) {
        TwoOnOneDay x = Made.persons(days, people);
        int met = metBy(days, people, seed, seeds);
        int common = common(met, seeds);
        Check.fraction(people + " of " + days + " days, seed " + seed + ", " + seeds, part -> x.odds(seed, seeds, part),
            met / common, seeds / common);
    }

    private static void howManySeeds() {
        oddsAsDue(2, 2, 5, 1);
        oddsAsDue(2, 2, 6, 1);
        oddsAsDue(2, 2, 7, 1);
        oddsAsDue(9, 3, 0, 49);
        oddsAsDue(9, 3, 0, 50);
        for (int seeds : new int[] {0, -1, 51, MIN, MAX}) {
            Check.none(seeds + " seeds", part -> Made.persons(1, 2).odds(0, seeds, part));
        }
        Check.fraction("50 of one day", part -> Made.persons(1, 2).odds(0, 50, part), 1, 1);
    }

    private static void passingSeeds() {
        oddsAsDue(10, 4, 99999, 1);
        oddsAsDue(10, 4, 99999, 2);
        oddsAsDue(10, 4, 99999, 50);
        oddsAsDue(10, 4, 99950, 50);
        oddsAsDue(10, 4, 99951, 50);
        oddsAsDue(6, 2, 99999, 50);
        oddsAsDue(6, 2, 99960, 50);
        for (int seed : new int[] {-1, 100000, MIN, MAX}) {
            Check.none("seed " + seed, part -> Made.persons(1, 2).odds(seed, 1, part));
        }
    }

    private static void odds() {
        oddsAsDue(24, 7, 0, 50);
        oddsAsDue(3, 2, 77, 9);
        Check.fraction("nobody", part -> new TwoOnOneDay().odds(0, 50, part), 0, 1);
        Check.fraction("one alone", part -> Made.persons(1, 1).odds(0, 50, part), 0, 1);
        Check.fraction("never", part -> Made.told(24, 0, 1, 2, 3, 4, 5, 6).odds(9, 50, part), 0, 1);
        Check.fraction("the last two", part -> Made.told(24, 0, 1, 2, 3, 4, 5, 5).odds(9, 50, part), 1, 1);
        TwoOnOneDay late = Made.one(1, LATE, 0, 0);
        late.person(LATE, 0, 0);
        Check.fraction("two who have no day", part -> late.odds(0, 50, part), 0, 1);
        late.person(PERSON, 0, 0);
        Check.fraction("and one who has", part -> late.odds(0, 50, part), 0, 1);
        late.person(PERSON, 0, 0);
        Check.fraction("and two who have", part -> late.odds(0, 50, part), 1, 1);
        Check.none("part", part -> late.odds(0, 50, part + 2));
    }

    private static void image() {
        TwoOnOneDay x = new TwoOnOneDay();
        Check.due("of nobody", x.image(), 0);
        for (int p = 1; p <= 7; p++) {
            x.person(PERSON, 0, 0);
            Check.due("of " + p, x.image(), p);
        }
        Check.due("the last image counts", x.back(), 7);
        Check.due("it changes nothing", x.count(0), 7);
    }

    private static void back() {
        TwoOnOneDay x = Made.told(12, 11, 0);
        x.set(1, 11, 9);
        x.image();
        Check.due("at once", x.back(), 2);
        x.move(0, 0);
        x.move(1, 11);
        x.set(1, 11, 0);
        x.set(1, 0, 1);
        Check.due("weight ahead", x.weight(0, 0), 1);
        Check.due("back", x.back(), 2);
        Check.due("told", x.told(0, 2) * 100 + x.told(1, 2), 1100);
        Check.due("weight", x.weight(0, 0), 0);
        Check.due("weight", x.weight(0, 11), 1);
        Check.due("born", x.bornOn(11) * 10 + x.bornOn(0), 90);
        x.set(0, 0, 24);
        x.move(0, 23);
        Check.due("back again", x.back(), 2);
        Check.due("the year", x.count(1), 12);
        Check.due("told", x.told(0, 2), 11);
        x.move(0, 0);
        x.set(0, 0, 1);
        Check.due("back from one day", x.back(), 2);
        Check.due("the year", x.count(1), 12);
        Check.due("told the last day", x.told(0, 2), 11);
        Check.due("a told day would be none", x.set(0, 0, 11), STATE);
        x.image();
        x.move(0, 5);
        x.back();
        Check.due("what is kept stays as it was", x.told(0, 2), 11);
        x.move(0, 6);
        x.back();
        Check.due("however often", x.told(0, 2), 11);
    }

    private static void whoCameSince() {
        TwoOnOneDay x = new TwoOnOneDay();
        x.image();
        for (int p = 0; p < 7; p++) {
            x.person(TOLD, 9, 11);
        }
        Check.due("full", x.person(PERSON, 0, 0), FULL);
        Check.due("nobody", x.back(), 0);
        Check.due("nobody", x.count(0), 0);
        Check.due("nobody", x.told(0, 0), NO_SUCH_ONE);
        Check.due("nobody", x.taken(24, 2), -11);
        Check.fraction("nobody", part -> x.meets(1, part), 0, 1);
        Check.due("another first one", x.person(LATE, 1, 3), 0);
        Check.due("who it is", x.told(0, 0) * 100 + x.told(0, 1) * 10 + x.told(0, 2), 313);
        Check.due("its weight", x.weight(0, 11) * 10 + x.weight(0, 1), 12);
        x.image();
        x.person(PERSON, 0, 0);
        x.person(PERSON, 0, 0);
        Check.due("one stays", x.back(), 1);
        Check.due("it is as it was", x.told(0, 0) * 100 + x.told(0, 1) * 10 + x.told(0, 2), 313);
        Check.due("the second one is none", x.move(1, 0), NO_SUCH_ONE);
        Check.due("there is room again", x.person(PERSON, 0, 0), 1);
        TwoOnOneDay full = Made.told(12, 0, 1, 2, 3, 4, 5, 11);
        Check.due("seven", full.image(), 7);
        for (int p = 0; p < 7; p++) {
            full.move(p, 8);
        }
        Check.due("seven", full.back(), 7);
        for (int p = 0; p < 7; p++) {
            Check.due("told day of " + p, full.told(p, 2), p == 6 ? 11 : p);
        }
        Check.due("seven", full.count(0), 7);
    }

    private static void noImage() {
        TwoOnOneDay x = new TwoOnOneDay();
        Check.due("a new object", x.back(), STATE);
        x.person(PERSON, 0, 0);
        x.set(0, 0, 5);
        Check.due("none yet", x.back(), STATE);
        Check.due("nobody went", x.count(0), 1);
        Check.due("the year stays", x.count(1), 5);
        x.image();
        Check.due("now there is one", x.back(), 1);
    }

    private static void kept() {
        TwoOnOneDay x = Made.year(24);
        x.person(TOLD, 3, 20);
        x.set(1, 23, 7);
        x.set(1, 0, 1);
        Check.text(x, "weighs 2;pays 1;asks 1;");
        x.force(1);
        Check.tape(x, "weighs 5;");
        Check.row(x, 0, INTS, 20);
        x.image();
        x.move(0, 3);
        x.set(1, 23, 0);
        x.set(1, 0, 9);
        x.set(0, 0, 4);
        x.force(0);
        Check.tape(x, "pays 6;asks 7;");
        x.cell(0, 0, 3);
        x.person(PERSON, 0, 0);
        Check.due("back", x.back(), 1);
        Check.due("the year", x.count(1), 24);
        Check.due("born on the first day", x.bornOn(0), 1);
        Check.due("born on the last day", x.bornOn(23), 7);
        Check.due("the told day", x.told(0, 2), 20);
        Check.due("PEOPLE", x.count(0), 1);
        Check.due("the law", x.count(3), 1);
        Check.due("what is not told to be kept: texts", x.count(2), 2);
        Check.due("the tape", x.text(), 2);
        Check.due("a sheet", x.list(0, 2), 1 << 3);
        Check.due("kind and more", x.told(0, 0) * 10 + x.told(0, 1), 23);
    }
}
