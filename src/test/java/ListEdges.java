/** Boundary cases of told lists: promises 29 to 34. */
final class ListEdges {
    private static final int BAD = -2, MISSING = -11, NO_SUCH_ONE = -5, NOT_TOLD = -7;
    private static final int PERSON = 0, TOLD = 2, LATE = 3, NEARLY = 4, SHY = 5;
    private static final int BYTES = 0, SHORTS = 1, INTS = 2;
    private static final int MIN = Integer.MIN_VALUE, MAX = Integer.MAX_VALUE;

    private ListEdges() { }

    static void all() {
        Sentences.sentence(29, "A SHEET tells the DAY of each: the first whose WEIGHT of it is 0; -1: none.",
            ListEdges::judged);
        Sentences.sentence(29, "BAD: SHEET; -11; BAD: it tells not as many as there are PEOPLE, what is no DAY.",
            () -> refused((x, s) -> x.judge(s)));
        Sentences.sentence(30, "what 0 the first who has the DAY of one of a lesser number (-1: none)", ListEdges::firstPair);
        Sentences.sentence(30, "1 PAIRS", ListEdges::pairs);
        Sentences.sentence(30, "2 DAYS TAKEN (bits)", ListEdges::daysTaken);
        Sentences.sentence(30, "3 DOUBTS of all whose WEIGHT of that DAY is 0, together.", ListEdges::doubts);
        Sentences.sentence(30, "BAD, -11, BAD likewise;", () -> refused((x, s) -> x.list(s, 0)));
        Sentences.sentence(30, "BAD: what.", ListEdges::nothingListed);
        Sentences.sentence(31, "HOW LIKELY it comes just so.", ListEdges::comes);
        Sentences.sentence(31, "(NO: refused likewise, too)", () -> refusedToo((x, s, part) -> x.comes(s, part)));
        Sentences.sentence(32, "HOW LIKELY no more DAYS are TAKEN than in it.", ListEdges::luck);
        Sentences.sentence(32, "(NO: refused likewise, too)", () -> refusedToo((x, s, part) -> x.luck(s, part)));
        Sentences.sentence(33, "TEXTS (bits), were they THE LAW, by which judge() would be -1.", ListEdges::laws);
        Sentences.sentence(33, "BAD, -11, BAD likewise.", () -> refused((x, s) -> x.laws(s)));
        Sentences.sentence(34, "TOLD DAYS (sort 0; bits)", ListEdges::toldDays);
        Sentences.sentence(34, "KINDS (1; bits 0 .. 5) by which, were they one's, all else being as it is",
            ListEdges::kinds);
        Sentences.sentence(34, "BAD, -11, BAD likewise;", () -> refused((x, s) -> x.can(s, 0, 0)));
        Sentences.sentence(34, "-5: no such one; -7: sort.", ListEdges::canNot);
    }

    private interface Asked {
        int of(TwoOnOneDay x, int s);
    }

    private interface Fraction {
        long of(TwoOnOneDay x, int s, int part);
    }

    /** What is due of a SHEET that tells no list. */
    private interface Refusal {
        void due(String what, TwoOnOneDay x, int s, int refusal);
    }

    private static TwoOnOneDay three() {
        TwoOnOneDay x = Made.persons(4, 3);
        Check.row(x, 0, INTS, 0, 3, 1);
        return x;
    }

    private static void refused(Asked asked) {
        eachRefusal((what, x, s, refusal) -> Check.due(what, asked.of(x, s), refusal));
        eachList((what, x, s) -> Check.isTrue(what + " is none refused", asked.of(x, s) >= -1));
    }

    private static void refusedToo(Fraction fraction) {
        eachRefusal((what, x, s, refusal) -> Check.none(what, part -> fraction.of(x, s, part)));
        eachList((what, x, s) -> Check.isTrue(what + " is none refused",
            fraction.of(x, s, 0) >= 0 && fraction.of(x, s, 1) > 0));
        Check.due("a list, part 2", fraction.of(three(), 0, 2), TwoOnOneDay.NO);
    }

    private static void eachRefusal(Refusal refusal) {
        for (int s : new int[] {-1, 4, 5, MIN, MAX}) {
            refusal.due("sheet " + s, three(), s, BAD);
        }
        for (int s = 1; s < 4; s++) {
            refusal.due("missing " + s, three(), s, MISSING);
        }
        TwoOnOneDay gone = three();
        gone.sheet(0, -1, 0);
        refusal.due("missing again", gone, 0, MISSING);
        int[][] rows = {
            {}, {0}, {0, 0}, {0, 0, 0, 0}, new int[40], {4, 0, 0}, {0, 4, 0}, {0, 0, 4}, {-1, 0, 0}, {0, -1, 0}, {0, 0, -1},
            {0, 0, 23}, {0, 0, 24}, {0, MAX, 0}, {0, 0, MIN + 4},
        };
        for (int sort = BYTES; sort <= INTS; sort++) {
            for (int i = 0; i < rows.length; i++) {
                TwoOnOneDay x = three();
                Check.row(x, 3, sort, rows[i]);
                refusal.due("row " + i + " of sort " + sort, x, 3, BAD);
            }
            TwoOnOneDay more = three();
            Check.row(more, 3, sort, 3, 0, 3);
            more.person(PERSON, 0, 0);
            refusal.due("one more came", more, 3, BAD);
            TwoOnOneDay less = three();
            Check.row(less, 3, sort, 2, 0, 3);
            less.set(0, 0, 3);
            refusal.due("a day less", less, 3, BAD);
        }
        TwoOnOneDay ints = three();
        Check.row(ints, 3, INTS, 0, 256, 0);
        refusal.due("an int of more than 8 bits", ints, 3, BAD);
        TwoOnOneDay nobody = new TwoOnOneDay();
        nobody.sheet(3, INTS, 1);
        refusal.due("one, of nobody", nobody, 3, BAD);
    }

    private interface List {
        void look(String what, TwoOnOneDay x, int s);
    }

    private static void eachList(List list) {
        for (int sort = BYTES; sort <= INTS; sort++) {
            for (int s = 0; s < 4; s++) {
                TwoOnOneDay x = three();
                Check.row(x, s, sort, 3, 0, 3);
                list.look("a list of sort " + sort + " in " + s, x, s);
                x.set(0, 0, 24);
                x.cell(s, 2, 23);
                list.look("the last of 24 days", x, s);
            }
        }
    }

    private static void judged() {
        TwoOnOneDay x = Made.told(24, 0, 1, 2, 3, 4, 5, 23);
        int[] right = {0, 1, 2, 3, 4, 5, 23};
        Check.row(x, 0, BYTES, right);
        Check.due("none", x.judge(0), -1);
        for (int p = 6; p >= 0; p--) {
            x.cell(0, p, 9);
            Check.due("from " + p + " on", x.judge(0), p);
        }
        for (int p = 0; p < 7; p++) {
            Check.row(x, 1, SHORTS, right);
            x.cell(1, p, 22);
            Check.due(p + " alone", x.judge(1), p);
        }
        TwoOnOneDay nobody = new TwoOnOneDay();
        nobody.sheet(3, INTS, 0);
        Check.due("nobody", nobody.judge(3), -1);
        nobody.sheet(3, BYTES, 0);
        Check.due("nobody", nobody.judge(3), -1);
        TwoOnOneDay one = Made.one(1, LATE, 0, 0);
        Check.row(one, 0, INTS, 0);
        Check.due("the only one", one.judge(0), 0);
    }

    private static void firstPair() {
        TwoOnOneDay x = Made.persons(24, 7);
        Check.row(x, 0, INTS, 0, 1, 2, 3, 4, 5, 6);
        Check.due("all apart", x.list(0, 0), -1);
        for (int p = 1; p < 7; p++) {
            for (int q = 0; q < p; q++) {
                Check.row(x, 1, INTS, 17, 18, 19, 20, 21, 22, 23);
                x.cell(1, p, 17 + q);
                Check.due(p + " on the day of " + q, x.list(1, 0), p);
            }
        }
        Check.row(x, 1, INTS, 5, 4, 4, 5, 5, 5, 5);
        Check.due("the first of two pairs", x.list(1, 0), 2);
        Check.row(x, 1, INTS, new int[7]);
        Check.due("all on the first day", x.list(1, 0), 1);
        TwoOnOneDay nobody = new TwoOnOneDay();
        nobody.sheet(0, INTS, 0);
        Check.due("nobody", nobody.list(0, 0), -1);
        TwoOnOneDay one = Made.persons(1, 1);
        one.sheet(0, INTS, 1);
        Check.due("one alone", one.list(0, 0), -1);
    }

    private static void pairs() {
        TwoOnOneDay x = Made.persons(24, 7);
        Check.row(x, 0, INTS, 23, 23, 23, 23, 23, 23, 23);
        Check.due("seven", x.list(0, 1), 21);
        Check.row(x, 0, INTS, 0, 0, 0, 23, 0, 23, 23);
        Check.due("four and three", x.list(0, 1), 9);
        Check.row(x, 0, INTS, 0, 1, 2, 3, 4, 5, 0);
        Check.due("the first and the last", x.list(0, 1), 1);
        Check.row(x, 0, INTS, 0, 1, 2, 3, 4, 5, 6);
        Check.due("none", x.list(0, 1), 0);
        TwoOnOneDay nobody = new TwoOnOneDay();
        nobody.sheet(0, INTS, 0);
        Check.due("nobody", nobody.list(0, 1), 0);
    }

    private static void daysTaken() {
        TwoOnOneDay x = Made.persons(24, 7);
        Check.row(x, 0, INTS, 23, 23, 0, 23, 0, 23, 23);
        Check.due("the first and the last", x.list(0, 2), 1 << 23 | 1);
        Check.row(x, 0, INTS, 17, 18, 19, 20, 21, 22, 23);
        Check.due("seven", x.list(0, 2), 127 << 17);
        TwoOnOneDay nobody = new TwoOnOneDay();
        nobody.sheet(0, INTS, 0);
        Check.due("nobody", nobody.list(0, 2), 0);
    }

    private static void doubts() {
        TwoOnOneDay x = Made.year(3);
        for (int p = 0; p < 7; p++) {
            x.person(NEARLY, 9, 0);
        }
        Check.row(x, 0, INTS, 2, 2, 2, 2, 2, 2, 2);
        Check.due("seven times 20", x.list(0, 3), 140);
        Check.row(x, 0, INTS, 0, 1, 0, 1, 0, 1, 0);
        Check.due("none", x.list(0, 3), 0);
        x.cell(0, 6, 2);
        Check.due("the last one", x.list(0, 3), 20);
        TwoOnOneDay y = Made.year(4);
        for (int kind = 0; kind < 6; kind++) {
            y.person(kind, 2, 3);
        }
        Made.weighing(y, "0");
        Check.row(y, 0, INTS, 2, 2, 2, 2, 2, 2);
        // a person 1, a spring 1, a told one 3, a late one 1, a nearly 6; a shy one's weight is 1
        Check.due("of each kind", y.list(0, 3), 12);
        Check.row(y, 0, INTS, 0, 0, 0, 0, 0, 0);
        // the spring has more on day 0, the nearly too: it is behind day 3
        Check.due("of each kind on day 0", y.list(0, 3), 5);
        TwoOnOneDay nobody = new TwoOnOneDay();
        nobody.sheet(0, INTS, 0);
        Check.due("nobody", nobody.list(0, 3), 0);
    }

    private static void nothingListed() {
        for (int what : new int[] {-1, 4, MIN, MAX}) {
            Check.due("what " + what, three().list(0, what), BAD);
            Check.due("-11 ahead of what " + what, three().list(1, what), MISSING);
            TwoOnOneDay nobody = new TwoOnOneDay();
            nobody.sheet(0, INTS, 0);
            Check.due("of nobody what " + what, nobody.list(0, what), BAD);
        }
    }

    private static void comes() {
        TwoOnOneDay x = Made.persons(24, 7);
        Made.weighing(x, "9");
        Check.row(x, 0, BYTES, 0, 23, 1, 22, 2, 21, 3);
        Check.fraction("one of 24 to the seventh", part -> x.comes(0, part), 1, 4586471424L);
        Made.weighing(x, "9-9*(day=3)");
        Check.fraction("the last one's day weighs nothing", part -> x.comes(0, part), 0, 1);
        x.cell(0, 6, 4);
        Check.fraction("one of 23 to the seventh", part -> x.comes(0, part), 1, 3404825447L);
        Made.weighing(x, "1+(day=0)");
        Check.fraction("the first one's weighs twice", part -> x.comes(0, part), 2, 6103515625L);
        Made.weighing(x, "9*(who=3)");
        Check.none("no ways", part -> x.comes(0, part));
        TwoOnOneDay nobody = new TwoOnOneDay();
        nobody.sheet(0, SHORTS, 0);
        Check.fraction("nobody", part -> nobody.comes(0, part), 1, 1);
        Check.none("nobody, part 2", part -> nobody.comes(0, part + 2));
        TwoOnOneDay one = Made.persons(1, 1);
        one.sheet(0, SHORTS, 1);
        Check.fraction("one of one day", part -> one.comes(0, part), 1, 1);
    }

    private static void luck() {
        TwoOnOneDay x = Made.persons(2, 7);
        Check.row(x, 0, INTS, 1, 1, 1, 1, 1, 1, 1);
        Check.fraction("one day", part -> x.luck(0, part), 1, 64);
        x.cell(0, 6, 0);
        Check.fraction("two days", part -> x.luck(0, part), 1, 1);
        TwoOnOneDay seven = Made.persons(7, 7);
        Check.row(seven, 0, INTS, 0, 1, 2, 3, 4, 5, 6);
        Check.fraction("seven days", part -> seven.luck(0, part), 1, 1);
        seven.cell(0, 6, 5);
        Check.fraction("six days", part -> seven.luck(0, part), 116929, 117649);
        TwoOnOneDay apart = Made.told(24, 0, 23);
        Check.row(apart, 0, INTS, 5, 5);
        Check.fraction("one day never", part -> apart.luck(0, part), 0, 1);
        Check.row(apart, 0, INTS, 5, 6);
        Check.fraction("two days always", part -> apart.luck(0, part), 1, 1);
        TwoOnOneDay nobody = new TwoOnOneDay();
        nobody.sheet(0, INTS, 0);
        Check.fraction("nobody", part -> nobody.luck(0, part), 1, 1);
        TwoOnOneDay late = Made.one(1, LATE, 0, 0);
        late.sheet(0, INTS, 1);
        Check.none("no ways", part -> late.luck(0, part));
    }

    private static void laws() {
        TwoOnOneDay x = Made.fullOfTexts();
        x.person(PERSON, 0, 0);
        Check.row(x, 0, INTS, 11);
        Check.due("all six", x.laws(0), 63);
        Check.due("the law stays", x.count(3), 0);
        x.force(5);
        Check.due("whatever the law", x.laws(0), 63);
        x.person(TOLD, 0, 0);
        Check.row(x, 0, INTS, 11, 11);
        Check.due("none", x.laws(0), 0);
        TwoOnOneDay y = new TwoOnOneDay();
        Check.text(y, "weighs day;pays 1;asks 1;");
        Check.text(y, "weighs 0;pays 1;asks 1;");
        y.person(PERSON, 0, 0);
        y.person(PERSON, 0, 0);
        Check.row(y, 0, INTS, 1, 1);
        Check.due("0 and 1", y.laws(0), 3);
        Check.row(y, 0, INTS, 1, 0);
        Check.due("0", y.laws(0), 1);
        Check.text(y, "weighs 1-day;pays 1;asks 1;");
        Check.row(y, 0, INTS, 0, 0);
        Check.due("0 and 3", y.laws(0), 9);
        TwoOnOneDay nobody = Made.fullOfTexts();
        nobody.sheet(0, INTS, 0);
        Check.due("nobody", nobody.laws(0), 63);
        TwoOnOneDay first = new TwoOnOneDay();
        first.sheet(0, INTS, 0);
        Check.due("nobody, one text", first.laws(0), 1);
    }

    private static int can(TwoOnOneDay x, int day, int sort) {
        Check.row(x, 0, INTS, day);
        return x.can(0, 0, sort);
    }

    private static void toldDays() {
        int all = (1 << 24) - 1;
        Check.due("a person, all of 24", can(Made.one(24, PERSON, 0, 5), 23, 0), all);
        Check.due("a person of one day", can(Made.persons(1, 1), 0, 0), 1);
        Check.due("a told one, the last day", can(Made.one(24, TOLD, 0, 0), 23, 0), 1 << 23);
        Check.due("a told one, the first day", can(Made.one(24, TOLD, 0, 5), 0, 0), 1);
        Check.due("a nearly, the first day", can(Made.one(24, NEARLY, 0, 5), 0, 0), 1 << 23 | 1);
        Check.due("a nearly, the last day", can(Made.one(24, NEARLY, 0, 5), 23, 0), 3 << 22);
        Check.due("a nearly of one day", can(Made.one(1, NEARLY, 0, 0), 0, 0), 1);
        Check.due("a late one on an even day", can(Made.one(24, LATE, 9, 5), 22, 0), 0);
        Check.due("a late one on an odd day", can(Made.one(24, LATE, 9, 5), 23, 0), all);
        TwoOnOneDay x = Made.one(24, PERSON, 0, 5);
        Made.weighing(x, "told=23 or told=0");
        Check.due("by what it is told", can(x, 7, 0), 1 << 23 | 1);
        Check.due("it stays", x.told(0, 2), 5);
        Check.due("its weights stay", x.weight(0, 7), 0);
        TwoOnOneDay two = Made.told(4, 1, 2);
        Check.row(two, 0, INTS, 3, 0);
        Check.due("the first one's", two.can(0, 0, 0), 8);
        Check.due("the second one's", two.can(0, 1, 0), 1);
    }

    private static void kinds() {
        Check.due("on its told day, 0", can(Made.one(2, PERSON, 9, 0), 0, 1), 0b110111);
        Check.due("on its told day, 1", can(Made.one(2, PERSON, 9, 1), 1, 1), 0b111111);
        Check.due("on the day behind", can(Made.one(3, PERSON, 0, 0), 1, 1), 0b111011);
        Check.due("round the year", can(Made.one(3, PERSON, 0, 2), 0, 1), 0b110011);
        Check.due("on another day", can(Made.one(5, PERSON, 0, 0), 3, 1), 0b101011);
        TwoOnOneDay x = Made.weighing(Made.one(5, LATE, 0, 0), "0");
        Check.due("by a law of 0, a shy one alone", can(x, 3, 1), 0b100000);
        Check.due("by a law of 0, on its told day", can(x, 0, 1), 0b110100);
        TwoOnOneDay y = Made.weighing(Made.one(5, SHY, 1, 0), "0");
        Check.due("more, on day 1", can(y, 1, 1), 0b111010);
        Check.due("more, on day 2", can(y, 2, 1), 0b100010);
        Check.due("its kind stays", y.told(0, 0), SHY);
        // what another KIND would be is weighed by its own number
        TwoOnOneDay two = Made.weighing(Made.persons(3, 2), "who");
        Check.row(two, 0, INTS, 1, 1);
        Check.due("the first one", two.can(0, 0, 1), 0b110000);
        Check.due("the second one", two.can(0, 1, 1), 0b111011);
    }

    private static void canNot() {
        TwoOnOneDay x = three();
        for (int p : new int[] {-1, 3, 6, 7, MIN, MAX}) {
            Check.due("one " + p, x.can(0, p, 0), NO_SUCH_ONE);
            Check.due("-5 ahead of -7, one " + p, x.can(0, p, 2), NO_SUCH_ONE);
            Check.due("-11 ahead of -5, one " + p, x.can(1, p, 2), MISSING);
        }
        for (int sort : new int[] {-1, 2, MIN, MAX}) {
            Check.due("sort " + sort, x.can(0, 2, sort), NOT_TOLD);
        }
        TwoOnOneDay nobody = new TwoOnOneDay();
        nobody.sheet(0, INTS, 0);
        Check.due("nobody", nobody.can(0, 0, 0), NO_SUCH_ONE);
        x.sheet(1, INTS, 2);
        Check.due("BAD ahead of -5", x.can(1, 9, 9), BAD);
    }
}
