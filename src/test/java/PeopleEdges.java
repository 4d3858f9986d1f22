/** Boundary cases of PEOPLE, KINDS and WEIGHTS: promises 9 to 12, and the Terms of these. */
final class PeopleEdges {
    private static final int BAD = -2, FULL = -4, NO_SUCH_ONE = -5, NOT_TOLD = -7;
    private static final int PERSON = 0, SPRING = 1, TOLD = 2, LATE = 3, NEARLY = 4, SHY = 5;
    private static final int MIN = Integer.MIN_VALUE, MAX = Integer.MAX_VALUE;

    private PeopleEdges() { }

    static void all() {
        Sentences.sentence(Sentences.TERMS, "PEOPLE are numbered from 0 on, 7 at most: of a KIND, with MORE (0 .. 9), "
            + "a TOLD DAY.", PeopleEdges::numbers);
        Sentences.sentence(9, "One of PEOPLE (KIND, MORE, TOLD DAY): the number.", PeopleEdges::whoCame);
        Sentences.sentence(9, "BAD;", PeopleEdges::badOnes);
        Sentences.sentence(9, "FULL.", PeopleEdges::full);
        Sentences.sentence(10, "The TOLD DAY of one becomes another one: which it was.", PeopleEdges::moves);
        Sentences.sentence(10, "-5: no such one; -7: no such DAY.", PeopleEdges::badMoves);
        Sentences.sentence(11, "Of one what 0 KIND, 1 MORE, 2 TOLD DAY, 3 DOUBTS, 4 all WEIGHTS together.",
            PeopleEdges::told);
        Sentences.sentence(11, "-5: no such one; -7: what.", PeopleEdges::nothingTold);
        Sentences.sentence(12, "WEIGHT of a DAY for one.", PeopleEdges::weight);
        Sentences.sentence(12, "BAD.", PeopleEdges::noWeight);
        Sentences.sentence(12, "WEIGHT of a DAY for one. BAD.", PeopleEdges::weightAtOnce);
        Sentences.sentence(Sentences.TERMS, "0 PERSON: that; always; 1.", PeopleEdges::person);
        Sentences.sentence(Sentences.TERMS, "1 SPRING (a PERSON): MORE more on DAYS that, twice, are below the YEAR.",
            PeopleEdges::spring);
        Sentences.sentence(Sentences.TERMS, "2 TOLD (a PERSON): 1 on its TOLD DAY, else 0; DOUBTS MORE more.",
            PeopleEdges::toldOne);
        Sentences.sentence(Sentences.TERMS, "3 LATE (a SPRING): 0 on even DAYS;", PeopleEdges::late);
        Sentences.sentence(Sentences.TERMS, "COMES only along with no more than MORE others. 4", PeopleEdges::lateAlong);
        Sentences.sentence(Sentences.TERMS, "4 NEARLY (a TOLD): 1 and MORE on the DAY behind its TOLD DAY (round the YEAR), "
            + "else as a TOLD;", PeopleEdges::nearly);
        Sentences.sentence(Sentences.TERMS, "DOUBTS twice as much.", PeopleEdges::doubtsTwice);
        Sentences.sentence(Sentences.TERMS, "5 SHY (a PERSON): WEIGHT 1;", PeopleEdges::shy);
        Sentences.sentence(Sentences.TERMS, "COMES only along with no more than MORE by 3 (cut) others.",
            PeopleEdges::shyAlong);
        Sentences.sentence(Sentences.TERMS, "(Whatever isn't told is as of the KIND above;", PeopleEdges::asAbove);
        Sentences.sentence(Sentences.TERMS, "WEIGHT 0 .. 9, else the bound.)", PeopleEdges::bound);
    }

    private static void numbers() {
        TwoOnOneDay x = new TwoOnOneDay();
        for (int p = 0; p < 7; p++) {
            Check.due("nobody is " + p, x.told(p, 0), NO_SUCH_ONE);
            Check.due("number", x.person(p % 6, 0, 0), p);
            Check.due("PEOPLE", x.count(0), p + 1);
        }
        Check.due("an eighth", x.person(0, 0, 0), FULL);
        Check.due("nobody is 7", x.told(7, 0), NO_SUCH_ONE);
        Check.due("the last one", x.told(6, 0), 0);
    }

    private static void whoCame() {
        TwoOnOneDay x = Made.year(24);
        for (int p = 0; p < 6; p++) {
            int more = p * 9 / 5;
            int day = p == 5 ? 23 : p;
            Check.due("who came", x.person(p, more, day), p);
            Check.due("kind of " + p, x.told(p, 0), p);
            Check.due("more of " + p, x.told(p, 1), more);
            Check.due("told day of " + p, x.told(p, 2), day);
        }
    }

    private static void badOnes() {
        TwoOnOneDay x = new TwoOnOneDay();
        for (int kind : new int[] {-1, 6, 7, MIN, MAX}) {
            Check.due("kind " + kind, x.person(kind, 0, 0), BAD);
        }
        for (int more : new int[] {-1, 10, MIN, MAX}) {
            Check.due("more " + more, x.person(0, more, 0), BAD);
        }
        for (int day : new int[] {-1, 12, 23, 24, MIN, MAX}) {
            Check.due("told day " + day, x.person(0, 0, day), BAD);
        }
        Check.due("nobody came", x.count(0), 0);
        Check.due("the greatest", x.person(5, 9, 11), 0);
        Check.due("the least", x.person(0, 0, 0), 1);
    }

    private static void full() {
        TwoOnOneDay x = Made.persons(12, 6);
        Check.due("the last one", x.person(5, 9, 11), 6);
        Check.due("no more", x.person(5, 9, 11), FULL);
        Check.due("no more", x.person(0, 0, 0), FULL);
        Check.due("BAD ahead of FULL", x.person(6, 0, 0), BAD);
        Check.due("BAD ahead of FULL", x.person(0, 10, 0), BAD);
        Check.due("BAD ahead of FULL", x.person(0, 0, 12), BAD);
        Check.due("PEOPLE", x.count(0), 7);
        Check.due("the last one stays", x.told(6, 0) * 1000 + x.told(6, 1) * 100 + x.told(6, 2), 5911);
    }

    private static void moves() {
        TwoOnOneDay x = Made.told(24, 0, 1, 2, 3, 4, 5, 6);
        Check.due("to the last day", x.move(6, 23), 6);
        Check.due("to the same day", x.move(6, 23), 23);
        Check.due("to the first day", x.move(6, 0), 23);
        Check.due("the first one", x.move(0, 22), 0);
        Check.due("told", x.told(6, 2) * 100 + x.told(0, 2), 22);
        Check.due("nobody else moved", x.told(1, 2) + x.told(2, 2) + x.told(3, 2) + x.told(4, 2) + x.told(5, 2), 15);
        Check.due("its weight", x.weight(0, 22), 1);
        Check.due("no more there", x.weight(0, 0), 0);
    }

    private static void badMoves() {
        TwoOnOneDay x = Made.told(12, 3, 4);
        for (int p : new int[] {-1, 2, 6, 7, MIN, MAX}) {
            Check.due("one " + p, x.move(p, 0), NO_SUCH_ONE);
        }
        for (int d : new int[] {-1, 12, 23, 24, MIN, MAX}) {
            Check.due("day " + d, x.move(1, d), NOT_TOLD);
        }
        Check.due("nobody", new TwoOnOneDay().move(0, 0), NO_SUCH_ONE);
        Check.due("they stay", x.told(0, 2) * 10 + x.told(1, 2), 34);
        Check.due("-5 ahead of -7", x.move(2, 12), NO_SUCH_ONE);
    }

    private static void told() {
        TwoOnOneDay x = Made.year(24);
        x.person(NEARLY, 9, 23);
        x.person(PERSON, 0, 0);
        int[] nearly = {NEARLY, 9, 23, 20, 10};
        int[] person = {PERSON, 0, 0, 1, 24};
        for (int what = 0; what < 5; what++) {
            Check.due("of a nearly what " + what, x.told(0, what), nearly[what]);
            Check.due("of a person what " + what, x.told(1, what), person[what]);
        }
        Made.weighing(x, "9");
        Check.due("all weights at most", x.told(1, 4), 216);
        Made.weighing(x, "0");
        Check.due("all weights 0", x.told(1, 4), 0);
        Check.due("of a told one", Made.one(24, TOLD, 9, 23).told(0, 4), 1);
    }

    private static void nothingTold() {
        TwoOnOneDay x = Made.persons(12, 2);
        for (int p : new int[] {-1, 2, 7, MIN, MAX}) {
            Check.due("one " + p, x.told(p, 0), NO_SUCH_ONE);
        }
        for (int what : new int[] {-1, 5, MIN, MAX}) {
            Check.due("what " + what, x.told(1, what), NOT_TOLD);
        }
        Check.due("nobody", new TwoOnOneDay().told(0, 0), NO_SUCH_ONE);
        Check.due("-5 ahead of -7", x.told(2, 5), NO_SUCH_ONE);
    }

    private static void weight() {
        TwoOnOneDay x = Made.persons(24, 7);
        Made.weighing(x, "day+who-17");
        Check.due("the first one, the first day", x.weight(0, 0), 0);
        Check.due("the first one, the last day", x.weight(0, 23), 6);
        Check.due("the last one, the last day", x.weight(6, 23), 9);
        Check.due("the last one, a day between", x.weight(6, 12), 1);
    }

    /** What was asked once is another thing when something has changed. */
    private static void weightAtOnce() {
        TwoOnOneDay x = Made.told(4, 0, 0);
        weighed("told 0", x, 1, 0, 1, 1);
        x.move(1, 3);
        weighed("told 3", x, 0, 1, 0, 1);
        x.move(0, 3);
        weighed("both told 3", x, 0, 1, 1, 1);
        TwoOnOneDay y = Made.weighing(Made.persons(4, 2), "born+year-3");
        weighed("four days, none born", y, 1, 1, 1, 4);
        y.set(1, 3, 5);
        weighed("five born on day 3", y, 1, 6, 13, 27);
        y.set(0, 0, 5);
        weighed("five days", y, 2, 7, 13, 45);
        y.force(0);
        weighed("the first law", y, 1, 1, 1, 5);
        y.image();
        y.force(1);
        weighed("the second law", y, 2, 7, 13, 45);
        y.back();
        weighed("the first law again", y, 1, 1, 1, 5);
        y.person(TOLD, 0, 4);
        Check.fraction("three meet", part -> y.meets(3, part), 1, 25);
        y.back();
        y.person(PERSON, 0, 4);
        Check.fraction("three others meet", part -> y.meets(3, part), 1, 25);
        Check.due("who came is weighed anew", y.weight(2, 0), 1);
    }

    /** WEIGHTS of days 0 and 3 for the second one, and how likely it meets the first. */
    private static void weighed(String what, TwoOnOneDay x, int first, int last, long above, long below) {
        Check.due(what + ": day 0", x.weight(1, 0), first);
        Check.due(what + ": day 3", x.weight(1, 3), last);
        Check.fraction(what + ": they meet", part -> x.meets(2, part), above, below);
    }

    private static void noWeight() {
        TwoOnOneDay x = Made.persons(12, 2);
        for (int p : new int[] {-1, 2, 7, MIN, MAX}) {
            Check.due("one " + p, x.weight(p, 0), BAD);
        }
        for (int d : new int[] {-1, 12, 24, MIN, MAX}) {
            Check.due("day " + d, x.weight(0, d), BAD);
        }
        Check.due("nobody", new TwoOnOneDay().weight(0, 0), BAD);
    }

    private static void person() {
        TwoOnOneDay x = Made.one(4, PERSON, 9, 1);
        Check.weights("plain", x, 0, 1, 1, 1, 1);
        Made.weighing(x, "8+day");
        Check.weights("nine at most", x, 0, 8, 9, 9, 9);
        Made.weighing(x, "day-2");
        Check.weights("0 at least", x, 0, 0, 0, 0, 1);
        TwoOnOneDay seven = Made.persons(1, 7);
        Check.due("comes with six others, no more", seven.host(7, 0), 127);
        Check.due("doubts", x.told(0, 3), 1);
    }

    private static void spring() {
        Check.weights("one day", Made.one(1, SPRING, 3, 0), 0, 4);
        Check.weights("two days", Made.one(2, SPRING, 3, 0), 0, 4, 1);
        Check.weights("three days", Made.one(3, SPRING, 3, 0), 0, 4, 4, 1);
        Check.weights("four days", Made.one(4, SPRING, 3, 0), 0, 4, 4, 1, 1);
        Check.weights("five days", Made.one(5, SPRING, 3, 0), 0, 4, 4, 4, 1, 1);
        TwoOnOneDay most = Made.one(24, SPRING, 8, 0);
        Check.due("day 11 of 24", most.weight(0, 11), 9);
        Check.due("day 12 of 24", most.weight(0, 12), 1);
        most.set(0, 0, 23);
        Check.due("day 11 of 23", most.weight(0, 11), 9);
        Check.due("day 12 of 23", most.weight(0, 12), 1);
        most.set(0, 0, 22);
        Check.due("day 10 of 22", most.weight(0, 10), 9);
        Check.due("day 11 of 22", most.weight(0, 11), 1);
        Check.weights("no more", Made.one(3, SPRING, 0, 0), 0, 1, 1, 1);
        Check.due("doubts", Made.one(3, SPRING, 9, 0).told(0, 3), 1);
    }

    private static void toldOne() {
        Check.weights("the first day", Made.one(3, TOLD, 9, 0), 0, 1, 0, 0);
        Check.weights("the last day", Made.one(3, TOLD, 9, 2), 0, 0, 0, 1);
        Check.weights("one day", Made.one(1, TOLD, 9, 0), 0, 1);
        Check.weights("whatever the law", Made.weighing(Made.one(3, TOLD, 0, 1), "9"), 0, 0, 1, 0);
        Check.weights("whatever the law", Made.weighing(Made.one(3, TOLD, 0, 1), "0"), 0, 0, 1, 0);
        Check.due("doubts", Made.one(1, TOLD, 0, 0).told(0, 3), 1);
        Check.due("doubts", Made.one(1, TOLD, 9, 0).told(0, 3), 10);
    }

    private static void late() {
        Check.weights("one day, an even one", Made.one(1, LATE, 9, 0), 0, 0);
        Check.weights("two days", Made.one(2, LATE, 3, 0), 0, 0, 1);
        Check.weights("three days", Made.one(3, LATE, 3, 0), 0, 0, 4, 0);
        Check.weights("six days", Made.one(6, LATE, 3, 0), 0, 0, 4, 0, 1, 0, 1);
        Check.weights("seven days", Made.one(7, LATE, 9, 0), 0, 0, 9, 0, 9, 0, 1, 0);
        Check.weights("no weight but by more", Made.weighing(Made.one(4, LATE, 2, 0), "0"), 0, 0, 2, 0, 0);
        Check.due("the last of 24", Made.one(24, LATE, 9, 0).weight(0, 23), 1);
        Check.due("doubts", Made.one(3, LATE, 9, 0).told(0, 3), 1);
    }

    /** One of a KIND with MORE among so many persons, so that all sets of one more have it in them. */
    private static TwoOnOneDay among(int kind, int more, int others) {
        TwoOnOneDay x = Made.year(2);
        x.person(kind, more, 0);
        for (int p = 0; p < others; p++) {
            x.person(PERSON, 0, 0);
        }
        return x;
    }

    private static void lateAlong() {
        for (int more = 0; more < 7; more++) {
            Check.due("with as many, " + more, among(LATE, more, more).host(more + 1, 0), (1 << more + 1) - 1);
            if (more < 6) {
                Check.due("with one more than " + more, among(LATE, more, more + 1).host(more + 2, 0), -1);
            }
        }
        Check.due("nine more", among(LATE, 9, 6).host(7, 0), 127);
        Check.due("without it others come", among(LATE, 0, 2).host(2, 0), 6);
        Check.due("27 likewise", among(LATE, 1, 1).cheap(50, 0), 3);
        Check.due("27 likewise", among(LATE, 0, 1).cheap(50, 0), -1);
    }

    private static void nearly() {
        Check.weights("behind the first day", Made.one(4, NEARLY, 3, 0), 0, 1, 4, 0, 0);
        Check.weights("behind the last but one", Made.one(4, NEARLY, 3, 2), 0, 0, 0, 1, 4);
        Check.weights("round the year", Made.one(4, NEARLY, 3, 3), 0, 4, 0, 0, 1);
        Check.weights("two days", Made.one(2, NEARLY, 3, 1), 0, 4, 1);
        Check.weights("no more", Made.one(3, NEARLY, 0, 2), 0, 1, 0, 1);
        Check.weights("nine at most", Made.one(3, NEARLY, 9, 1), 0, 0, 1, 9);
        Check.weights("just nine", Made.one(3, NEARLY, 8, 1), 0, 0, 1, 9);
        Check.weights("whatever the law", Made.weighing(Made.one(3, NEARLY, 1, 0), "0"), 0, 1, 2, 0);
        TwoOnOneDay x = Made.one(24, NEARLY, 2, 23);
        Check.due("round 24 days", x.weight(0, 0), 3);
        TwoOnOneDay y = Made.one(5, NEARLY, 2, 3);
        y.set(0, 0, 4);
        Check.weights("round a year that lost a day", y, 0, 3, 0, 0, 1);
        y.set(0, 0, 5);
        Check.weights("when it has it again", y, 0, 0, 0, 0, 1, 3);
    }

    private static void doubtsTwice() {
        for (int more = 0; more <= 9; more++) {
            Check.due("a told one with " + more, Made.one(2, TOLD, more, 0).told(0, 3), 1 + more);
            Check.due("a nearly with " + more, Made.one(2, NEARLY, more, 0).told(0, 3), 2 + 2 * more);
        }
    }

    private static void shy() {
        Check.weights("plain", Made.one(3, SHY, 9, 0), 0, 1, 1, 1);
        Check.weights("by a law of 0", Made.weighing(Made.one(3, SHY, 9, 0), "0"), 0, 1, 1, 1);
        Check.weights("by a law of 9", Made.weighing(Made.one(3, SHY, 9, 0), "9"), 0, 1, 1, 1);
        Check.weights("one day", Made.one(1, SHY, 0, 0), 0, 1);
        Check.due("doubts", Made.one(3, SHY, 9, 0).told(0, 3), 1);
    }

    private static void shyAlong() {
        int[] others = {0, 0, 0, 1, 1, 1, 2, 2, 2, 3};
        for (int more = 0; more <= 9; more++) {
            int most = others[more];
            Check.due("with as many, " + more, among(SHY, more, most).host(most + 1, 0), (1 << most + 1) - 1);
            Check.due("with one too many, " + more, among(SHY, more, most + 1).host(most + 2, 0), -1);
        }
        Check.due("27 likewise", among(SHY, 3, 1).cheap(50, 0), 3);
        Check.due("27 likewise", among(SHY, 2, 1).cheap(50, 0), -1);
    }

    private static void asAbove() {
        // a told and a nearly one come always, a spring too
        for (int kind : new int[] {SPRING, TOLD, NEARLY}) {
            Check.due("kind " + kind + " comes always", among(kind, 0, 6).host(7, 0), 127);
        }
        // a late one is weighed as a spring, whatever the law
        TwoOnOneDay x = Made.weighing(Made.one(6, LATE, 2, 0), "day");
        Check.weights("a late one", x, 0, 0, 3, 0, 3, 0, 5);
    }

    private static void bound() {
        Check.weights("a spring of nine and nine", Made.weighing(Made.one(2, SPRING, 9, 0), "9"), 0, 9, 9);
        Check.weights("a spring of eight and one", Made.weighing(Made.one(2, SPRING, 1, 0), "8"), 0, 9, 8);
        Check.weights("a spring of eight and two", Made.weighing(Made.one(2, SPRING, 2, 0), "8"), 0, 9, 8);
        Check.weights("a spring of none and none", Made.weighing(Made.one(2, SPRING, 0, 0), "0"), 0, 0, 0);
        Check.weights("a late one of nine and nine", Made.weighing(Made.one(3, LATE, 9, 0), "9"), 0, 0, 9, 0);
        Check.weights("a law of ten", Made.weighing(Made.one(2, PERSON, 0, 0), "10"), 0, 9, 9);
        Check.weights("a law below 0", Made.weighing(Made.one(2, PERSON, 0, 0), "-1"), 0, 0, 0);
        Check.weights("what the text says is bound ahead of more", Made.weighing(Made.one(2, SPRING, 3, 0), "-2"), 0, 3, 0);
    }
}
