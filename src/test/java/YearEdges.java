/** Boundary cases of the YEAR and of what is counted: promises 1 to 4, and the Terms of these. */
final class YearEdges {
    private static final int NONE = -1, BAD = -2, STATE = -3, FULL = -4;
    private static final int MIN = Integer.MIN_VALUE, MAX = Integer.MAX_VALUE;

    private YearEdges() { }

    static void all() {
        Sentences.sentence(1, "Nobody.", YearEdges::nobody);
        Sentences.sentence(Sentences.TERMS, "A YEAR has 1 .. 24 DAYS (12 at first)", YearEdges::days);
        Sentences.sentence(Sentences.TERMS, "numbered from 0 on; on each", YearEdges::dayNumbers);
        Sentences.sentence(Sentences.TERMS, "so many are BORN (0 .. 9; 0 at first)", YearEdges::born);
        Sentences.sentence(2, "The YEAR has v DAYS (what 0; of does not matter;", YearEdges::ofDoesNotMatter);
        Sentences.sentence(2, "how many are BORN on DAYS that it loses is so again, when it has them again",
            YearEdges::lostDays);
        Sentences.sentence(2, "v are BORN on a DAY (1)", YearEdges::bornOnThatDayAlone);
        Sentences.sentence(2, ": what it was.", YearEdges::whatItWas);
        Sentences.sentence(2, "NONE: what;", YearEdges::what);
        Sentences.sentence(2, "BAD: DAY, v;", YearEdges::badDayOrNumber);
        Sentences.sentence(2, "STATE: a TOLD DAY would be none.", YearEdges::toldDayWouldBeNone);
        Sentences.sentence(3, "0 PEOPLE, 1 DAYS, 2 TEXTS, 3 THE LAW, 4 bytes of THE TAPE.", YearEdges::counts);
        Sentences.sentence(3, "BAD.", YearEdges::nothingCounted);
        Sentences.sentence(4, "How many are BORN on a DAY.", YearEdges::bornOn);
        Sentences.sentence(4, "BAD.", YearEdges::bornOnNoDay);
    }

    private static void nobody() {
        TwoOnOneDay x = new TwoOnOneDay();
        Check.due("count(0)", x.count(0), 0);
        Check.due("told(0, 0)", x.told(0, 0), -5);
        Check.due("taken(24, 0)", x.taken(24, 0), -11);
        Check.due("image()", x.image(), 0);
        Check.due("the first one's number", x.person(0, 0, 0), 0);
    }

    private static void days() {
        TwoOnOneDay x = new TwoOnOneDay();
        Check.due("at first", x.count(1), 12);
        for (int v : new int[] {0, -1, 25, 26, MIN, MAX}) {
            Check.due("set(0, 0, " + v + ")", x.set(0, 0, v), BAD);
            Check.due("still", x.count(1), 12);
        }
        Check.due("one day", x.set(0, 0, 1), 12);
        Check.due("one day", x.count(1), 1);
        Check.due("24 days", x.set(0, 0, 24), 1);
        Check.due("24 days", x.count(1), 24);
        for (int v = 1; v <= 24; v++) {
            Check.due(v + " days", x.set(0, 0, v), v == 1 ? 24 : v - 1);
        }
    }

    private static void dayNumbers() {
        for (int days : new int[] {1, 2, 12, 23, 24}) {
            TwoOnOneDay x = Made.persons(days, 1);
            Check.due("the first of " + days, x.weight(0, 0), 1);
            Check.due("the last of " + days, x.weight(0, days - 1), 1);
            Check.due("behind the last of " + days, x.weight(0, days), BAD);
            Check.due("before the first of " + days, x.weight(0, -1), BAD);
            Check.due("to the last of " + days, x.move(0, days - 1), 0);
            Check.due("behind the last of " + days, x.move(0, days), -7);
        }
    }

    private static void born() {
        TwoOnOneDay x = Made.year(24);
        for (int d = 0; d < 24; d++) {
            Check.due("at first on " + d, x.bornOn(d), 0);
            Check.due("nine on " + d, x.set(1, d, 9), 0);
        }
        for (int v : new int[] {-1, 10, MIN, MAX}) {
            Check.due(v + " on 5", x.set(1, 5, v), BAD);
            Check.due("still", x.bornOn(5), 9);
        }
        Check.due("none on 5", x.set(1, 5, 0), 9);
        Check.due("none on 5", x.bornOn(5), 0);
    }

    private static void ofDoesNotMatter() {
        TwoOnOneDay x = new TwoOnOneDay();
        int was = 12;
        for (int of : new int[] {MIN, -1, 11, 12, 24, 99, MAX}) {
            int days = was == 12 ? 13 : 12;
            Check.due("set(0, " + of + ", " + days + ")", x.set(0, of, days), was);
            was = days;
        }
        Check.due("and BAD is v", x.set(0, 99, 25), BAD);
    }

    private static void lostDays() {
        TwoOnOneDay x = Made.year(24);
        int[] born = {0, 3, 1, 5, 6, 12, 8, 22, 9, 23};
        for (int i = 0; i < born.length; i += 2) {
            x.set(1, born[i + 1] % 24, born[i]);
        }
        x.set(1, 0, 4);
        Check.due("one day is left", x.set(0, 0, 1), 24);
        Check.due("the first day stays", x.bornOn(0), 4);
        Check.due("a lost day", x.bornOn(1), BAD);
        Check.due("a lost day can't be set", x.set(1, 23, 2), BAD);
        Check.due("some are back", x.set(0, 0, 23), 1);
        Check.due("born on 22", x.bornOn(22), 8);
        Check.due("23 is still lost", x.bornOn(23), BAD);
        Check.due("all are back", x.set(0, 0, 24), 23);
        for (int i = 0; i < born.length; i += 2) {
            Check.due("born on " + born[i + 1], x.bornOn(born[i + 1]), born[i]);
        }
        Check.due("none on the others", x.bornOn(2) + x.bornOn(11) + x.bornOn(13), 0);
    }

    private static void bornOnThatDayAlone() {
        TwoOnOneDay x = Made.year(24);
        x.set(1, 0, 1);
        x.set(1, 23, 2);
        for (int d = 0; d < 24; d++) {
            Check.due("born on " + d, x.bornOn(d), d == 0 ? 1 : d == 23 ? 2 : 0);
        }
        Check.due("the year stays", x.count(1), 24);
    }

    private static void whatItWas() {
        TwoOnOneDay x = new TwoOnOneDay();
        Check.due("the same year", x.set(0, 0, 12), 12);
        Check.due("the same year again", x.set(0, 0, 12), 12);
        Check.due("born", x.set(1, 11, 9), 0);
        Check.due("as many born", x.set(1, 11, 9), 9);
        Check.due("none born", x.set(1, 11, 0), 9);
        Check.due("none born again", x.set(1, 11, 0), 0);
    }

    private static void what() {
        TwoOnOneDay x = new TwoOnOneDay();
        for (int what : new int[] {-1, 2, MIN, MAX}) {
            for (int v : new int[] {1, 0, -1, 25, MIN, MAX}) {
                Check.due("set(" + what + ", 0, " + v + ")", x.set(what, 0, v), NONE);
                Check.due("set(" + what + ", -1, " + v + ")", x.set(what, -1, v), NONE);
            }
        }
        Check.due("the year stays", x.count(1), 12);
        Check.due("none are born", x.bornOn(0), 0);
    }

    private static void badDayOrNumber() {
        TwoOnOneDay x = new TwoOnOneDay();
        for (int d : new int[] {-1, 12, 23, 24, MIN, MAX}) {
            Check.due("set(1, " + d + ", 1)", x.set(1, d, 1), BAD);
        }
        Check.due("the last day", x.set(1, 11, 1), 0);
        Check.due("the first day", x.set(1, 0, 1), 0);
        Check.due("v below 0", x.set(1, 0, -1), BAD);
        Check.due("v above 9", x.set(1, 0, 10), BAD);
        Check.due("what 0: no day", x.set(0, 0, 0), BAD);
        Check.due("what 0: 25 days", x.set(0, 0, 25), BAD);
    }

    private static void toldDayWouldBeNone() {
        TwoOnOneDay x = Made.year(24);
        x.person(0, 0, 2);
        x.person(0, 0, 7);
        x.person(0, 0, 0);
        for (int v = 1; v <= 7; v++) {
            Check.due("told 7 of " + v, x.set(0, 0, v), STATE);
        }
        Check.due("still", x.count(1), 24);
        Check.due("told 7 of 8", x.set(0, 0, 8), 24);
        x.move(1, 0);
        Check.due("told 2 of 2", x.set(0, 0, 2), STATE);
        Check.due("told 2 of 3", x.set(0, 0, 3), 8);
        x.move(0, 0);
        Check.due("told 0 of 1", x.set(0, 0, 1), 3);
        TwoOnOneDay y = new TwoOnOneDay();
        y.image();
        y.person(0, 0, 11);
        Check.due("told 11 of 11", y.set(0, 0, 11), STATE);
        y.back();
        Check.due("nobody is there again", y.set(0, 0, 1), 12);
        TwoOnOneDay last = new TwoOnOneDay();
        for (int p = 0; p < 7; p++) {
            last.person(0, 0, p == 6 ? 5 : 1);
        }
        Check.due("the last one's told day", last.set(0, 0, 5), STATE);
        Check.due("the last one's told day", last.set(0, 0, 6), 12);
    }

    private static void counts() {
        TwoOnOneDay x = new TwoOnOneDay();
        int[] first = {0, 12, 1, 0, 0};
        for (int what = 0; what < 5; what++) {
            Check.due("count(" + what + ") at first", x.count(what), first[what]);
        }
        TwoOnOneDay full = Made.fullOfTexts();
        full.set(0, 0, 24);
        full.force(5);
        for (int p = 0; p < 7; p++) {
            full.person(0, 0, 23);
        }
        Made.blanks(full, 160);
        Check.due("an eighth", full.person(0, 0, 0), FULL);
        int[] most = {7, 24, 6, 5, 160};
        for (int what = 0; what < 5; what++) {
            Check.due("count(" + what + ") when all is full", full.count(what), most[what]);
        }
    }

    private static void nothingCounted() {
        for (int what : new int[] {-1, 5, MIN, MAX}) {
            Check.due("count(" + what + ")", new TwoOnOneDay().count(what), BAD);
        }
    }

    private static void bornOn() {
        TwoOnOneDay x = Made.year(24);
        x.set(1, 0, 9);
        x.set(1, 23, 1);
        Check.due("the first day", x.bornOn(0), 9);
        Check.due("the last day", x.bornOn(23), 1);
        Check.due("none", x.bornOn(22), 0);
    }

    private static void bornOnNoDay() {
        TwoOnOneDay x = new TwoOnOneDay();
        for (int d : new int[] {-1, 12, 23, 24, MIN, MAX}) {
            Check.due("bornOn(" + d + ")", x.bornOn(d), BAD);
        }
        x.set(0, 0, 1);
        Check.due("of one day", x.bornOn(1), BAD);
    }
}
