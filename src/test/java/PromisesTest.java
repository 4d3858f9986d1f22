/** Each promise by itself: ordinary calls, the edges that the document names, wrong numbers. */
public final class PromisesTest {
    private static final int NONE = -1, BAD = -2, STATE = -3, FULL = -4;
    private static final long NO = TwoOnOneDay.NO;
    private static final int MIN = Integer.MIN_VALUE, MAX = Integer.MAX_VALUE;

    private PromisesTest() { }

    public static void main(String[] arguments) {
        Check.watch();
        yearAndLaw();
        texts();
        faults();
        people();
        kinds();
        howLikely();
        oneByOne();
        whomToAsk();
        toldLists();
        byLot();
        images();
        theHost();
        Check.end();
    }

    private static void due(String what, long got, long want) {
        Check.due(what, got, want);
    }

    /** A YEAR of so many DAYS, and so many PERSONS. */
    private static TwoOnOneDay persons(int days, int number) {
        TwoOnOneDay x = new TwoOnOneDay();
        x.set(0, 0, days);
        for (int p = 0; p < number; p++) {
            x.person(0, 0, 0);
        }
        return x;
    }

    // ---- promises 1 to 4

    private static void yearAndLaw() {
        TwoOnOneDay x = new TwoOnOneDay();
        due("1 nobody", x.count(0), 0);
        due("1 twelve days", x.count(1), 12);
        due("1 one text", x.count(2), 1);
        due("1 the law", x.count(3), 0);
        due("1 an empty tape", x.count(4), 0);
        due("3 count(5)", x.count(5), BAD);
        due("3 count(-1)", x.count(-1), BAD);

        due("2 what", x.set(2, 0, 99), NONE);
        due("2 what", x.set(-1, 0, 1), NONE);
        due("2 no days", x.set(0, 0, 0), BAD);
        due("2 too many days", x.set(0, 0, 25), BAD);
        due("2 of does not matter", x.set(0, MIN, 24), 12);
        due("2 was", x.set(0, 0, 5), 24);
        due("3 days", x.count(1), 5);
        due("2 no such day", x.set(1, 5, 1), BAD);
        due("2 no such day", x.set(1, -1, 1), BAD);
        due("2 born below 0", x.set(1, 0, -1), BAD);
        due("2 born above 9", x.set(1, 0, 10), BAD);
        due("2 born", x.set(1, 4, 9), 0);
        due("2 born again", x.set(1, 4, 3), 9);
        due("4 bornOn", x.bornOn(4), 3);
        due("4 bornOn", x.bornOn(0), 0);
        due("2 none are born", x.set(1, 0, 0), 0);
        due("4 no day", x.bornOn(5), BAD);
        due("4 no day", x.bornOn(-1), BAD);
        due("4 no day", x.bornOn(MAX), BAD);
        due("2 a day is lost", x.set(0, 0, 4), 5);
        due("4 a day is lost", x.bornOn(4), BAD);
        due("2 and comes back", x.set(0, 0, 5), 4);
        due("4 with those who were born", x.bornOn(4), 3);
        x.person(0, 0, 3);
        due("2 a told day would be none", x.set(0, 0, 3), STATE);
        due("2 BAD ahead of STATE", x.set(0, 0, 0), BAD);
        due("2 unchanged", x.count(1), 5);
        due("2 just enough", x.set(0, 0, 4), 5);
    }

    // ---- promises 5 to 8

    private static void texts() {
        TwoOnOneDay x = new TwoOnOneDay();
        due("5 none", x.feed(0, 1, 1, 1, 1, 1), BAD);
        due("5 six", x.feed(6, 1, 1, 1, 1, 1), BAD);
        due("5 no byte", x.feed(1, 256, 1, 1, 1, 1), BAD);
        due("5 no byte, though it would not come", x.feed(1, 1, 1, 1, 1, -1), BAD);
        for (int i = 0; i < 5; i++) {
            int[] five = {0, 255, 0, 255, 255};
            five[i] = 256;
            due("5 no byte at " + i, x.feed(5, five[0], five[1], five[2], five[3], five[4]), BAD);
            five[i] = -1;
            due("5 no byte at " + i, x.feed(1, five[0], five[1], five[2], five[3], five[4]), BAD);
        }
        due("5 bytes", x.feed(5, 255, 0, 255, 0, 255), 5);
        due("6 a byte that begins no token", x.text(), -100);
        x.feed(5, 'w', 'e', 'i', 'g', 'h');
        x.feed(3, 's', ' ', '1', 'a', 'a');
        x.feed(4, ';', 'p', 'a', 'z', 'a');
        due("5 one by one", x.text(), -109);
        due("5 five", x.feed(5, 32, 32, 32, 32, 32), 5);
        for (int i = 0; i < 30; i++) {
            x.feed(5, 32, 10, 32, 10, 32);
        }
        due("5 155 bytes", x.count(4), 155);
        due("5 three more", x.feed(3, 32, 32, 32, 0, 0), 158);
        due("5 no room for all", x.feed(3, 32, 32, 32, 0, 0), FULL);
        due("5 BAD ahead of FULL", x.feed(3, 32, 32, 32, 0, 999), BAD);
        due("5 none came", x.count(4), 158);
        due("5 just room", x.feed(2, 32, 32, 0, 0, 0), 160);
        due("6 blanks alone end too early", x.text(), -260);
        due("6 the tape is empty", x.count(4), 0);
        due("6 an empty tape", x.text(), -100);

        due("6 a text", Check.text(x, "weighs day pays 7;asks 1;"), -111);
        due("6 a text", Check.text(x, "weighs day;pays 7;asks who+more;"), 1);
        due("6 another one", Check.text(x, "weighs\n9 ; pays 50 ; asks -1 ; "), 2);
        due("3 texts", x.count(2), 3);
        due("3 the law", x.count(3), 0);
        due("7 no text", x.force(3), BAD);
        due("7 no text", x.force(-1), BAD);
        due("7 which was", x.force(1), 0);
        due("7 which was", x.force(2), 1);
        due("3 the law", x.count(3), 2);
        for (int t = 3; t < 6; t++) {
            due("6 room", Check.text(x, "weighs 1;pays 1;asks 1;"), t);
        }
        Check.tape(x, "weighs &");
        due("6 FULL ahead of the fault", x.text(), FULL);
        due("6 the tape stays", x.count(4), 8);

        x.person(0, 5, 3);
        x.person(1, 6, 4);
        due("8 below 9", x.asks(0, 0, 3), 9);
        due("8 no more than 40", x.asks(1, 0, 0), 40);
        due("8 not below 0", x.asks(2, 0, 0), 0);
        x.force(1);
        due("8 weighs", x.asks(0, 0, 8), 8);
        due("8 the kind does not matter", x.asks(0, 1, 2), 2);
        due("8 weighs 9 at most", x.asks(0, 0, 11), 9);
        due("8 pays", x.asks(1, 1, 8), 7);
        due("8 asks", x.asks(2, 1, 8), 7);
        due("8 part", x.asks(3, 0, 0), BAD);
        due("8 part", x.asks(-1, 0, 0), BAD);
        due("8 no one", x.asks(0, 2, 0), BAD);
        due("8 no one", x.asks(0, -1, 0), BAD);
        due("8 no day", x.asks(0, 0, 12), BAD);
        due("8 no day", x.asks(0, 0, -1), BAD);
        expressions();
    }

    /** What an E of pays is, for one with number 1, more 3, told day 4, on day 2 of 12, 5 born. */
    private static int value(String e) {
        TwoOnOneDay x = new TwoOnOneDay();
        x.person(0, 0, 0);
        x.person(0, 3, 4);
        x.set(1, 2, 5);
        due("6 " + e, Check.text(x, "weighs 1;pays " + e + ";asks 0;"), 1);
        x.force(1);
        return x.asks(1, 1, 2);
    }

    private static void expressions() {
        due("names", value("day"), 2);
        due("names", value("born"), 5);
        due("names", value("year"), 12);
        due("names", value("more"), 3);
        due("names", value("told"), 4);
        due("names", value("who"), 1);
        due("numbers", value("0038"), 38);
        due("sums from the left", value("9-3-2"), 4);
        due("products first", value("2+3*4-1"), 13);
        due("a ( )", value("(2+3)*4"), 20);
        due("minus", value("10+-day*-3"), 16);
        due("minus of a ( )", value("-(day-9)"), 7);
        due("less", value("day<3"), 1);
        due("not less", value("3<day+1"), 0);
        due("same", value("day=born-more"), 1);
        due("below 0", value("-1<0"), 1);
        due("or", value("0 or 7"), 1);
        due("or", value("0 or 0 or 0"), 0);
        due("and", value("2 and 7"), 1);
        due("and", value("2 and 0"), 0);
        due("and ahead of or", value("1 or 0 and 0"), 1);
        due("a ( ) ahead of and", value("(1 or 0) and 0"), 0);
        due("not", value("not 7"), 0);
        due("not", value("not 0"), 1);
        due("not ahead of and", value("not 1 and 0"), 0);
        due("not behind less", value("not 1<0"), 1);
        due("not not", value("not not 7"), 1);
        due("what is one alone stays", value("(((7)))"), 7);
        // 2199560022 is below 0 in 32 bits, 4299140043 is 4172747
        due("32 bits", value("9999*9999*22<0"), 1);
        due("32 bits", value("9999*9999*43=417*1000*10+2747"), 1);
        due("32 bits", value("0-9999*9999*22<0"), 0);
        due("words beside numbers", value("1or 0"), 1);
    }

    private static void faults() {
        String[] wrong = {
            "", "0", "weighs", "6", "   ", "3", "pays", "0", "weighs 1", "8", "weighs 1;", "9",
            "weighs 1;pays 2;asks 3", "22", "weighs 1;pays 2;asks 3; ;", "24", "weighs 1;pays 2;asks 3;weighs", "23",
            "weighs 1;asks", "9", "weighs ;", "7", "weighs 1 2", "9", "weighs 1+;", "9", "weighs +1", "7",
            "weighs day day", "11", "weighs dayz", "7", "weighs yea", "7", "weighs zwho", "7", "weighs tolda", "7",
            "weighs yearyear", "7", "weighs weigh", "7", "weighs days", "7", "weighs wei", "7", "weighs weighs", "7", "weighs A", "7",
            "weighs 12345", "7", "weighs 00001", "7", "weighs 1\t", "8", "weighs 1>2", "8", "weighs 1<2<3", "10",
            "weighs 1=2<3", "10", "weighs 1*not 2", "9", "weighs not", "10", "weighs (1;", "9", "weighs 1)", "8",
            "weighs ()", "8", "weighs 1 or", "11", "weighs or 1", "7", "weighs 1 and and", "13", "weighs 1<not 2", "9",
            "weighs ((((((1", "12", "weighs ------1", "12", "weighs (((((1)))))+(((((2)))));pays &", "36",
            "weighs not not not not not not 1", "27", "weighs (-(-(-1", "12", "weighs -(-(-(1))) ;", "12", "weighs -(-(-1)) ;&", "17",
            "weighs (-(-(1-1)))-1-1-1-1-1-1-1;(", "33", "weighs (((((not 1", "12", "weighs not -not", "12",
            "weighs not not not not not 1<2 and not not not not not 3;)", "57",
            "weighs \u00e9", "7", "weighs 1;pays 2;asks 3;\u0000", "23", "weighs 1 ;\r", "10", "weighs -", "8",
            "weighs 1 - ;", "11", "weighsday", "0", "weighs 1,", "8", "weighs 1.5", "8", "weighs 1;;", "9",
        };
        TwoOnOneDay x = new TwoOnOneDay();
        for (int i = 0; i < wrong.length; i += 2) {
            due("6 fault of [" + wrong[i] + "]", Check.text(x, wrong[i]), -100 - Integer.parseInt(wrong[i + 1]));
            due("6 no tape", x.count(4), 0);
            due("6 no text", x.count(2), 1);
        }
        String[] fine = {
            "weighs 1;pays 2;asks 3;", "\nweighs1;pays2;asks3; \n", "weighs -----1;pays (((((1)))));asks not not not not not 1;",
            "weighs (-(-(1))) - - - 1 ; pays 1 - -1 ; asks 9999 ;", "weighs not 1<2 and not 1=2 or not not 1;pays 1;asks 1;",
        };
        for (int i = 0; i < fine.length; i++) {
            due("6 [" + fine[i] + "]", Check.text(x, fine[i]), i + 1);
        }
    }

    // ---- promises 9 to 12

    private static void people() {
        TwoOnOneDay x = new TwoOnOneDay();
        due("9 kind", x.person(6, 0, 0), BAD);
        due("9 kind", x.person(-1, 0, 0), BAD);
        due("9 more", x.person(0, 10, 0), BAD);
        due("9 more", x.person(0, -1, 0), BAD);
        due("9 day", x.person(0, 0, 12), BAD);
        due("9 day", x.person(0, 0, -1), BAD);
        for (int p = 0; p < 7; p++) {
            due("9 the number", x.person(p % 6, p, p + 1), p);
        }
        due("9 full", x.person(0, 0, 0), FULL);
        due("9 BAD ahead of FULL", x.person(0, 0, 12), BAD);
        due("11 kind", x.told(4, 0), 4);
        due("11 more", x.told(5, 1), 5);
        due("11 told day", x.told(6, 2), 7);
        due("11 no one", x.told(7, 9), -5);
        due("11 no one", x.told(-1, 0), -5);
        due("11 what", x.told(0, 5), -7);
        due("11 what", x.told(0, -1), -7);
        due("10 no one", x.move(7, 99), -5);
        due("10 no one", x.move(MIN, 0), -5);
        due("10 no day", x.move(0, 12), -7);
        due("10 no day", x.move(0, -1), -7);
        due("10 which it was", x.move(6, 11), 7);
        due("10 which it was", x.move(6, 0), 11);
        due("11 it is another one", x.told(6, 2), 0);
        due("12 no one", x.weight(7, 0), BAD);
        due("12 no one", x.weight(-1, 0), BAD);
        due("12 no day", x.weight(0, 12), BAD);
        due("12 no day", x.weight(0, -1), BAD);
    }

    private static void weights(String what, TwoOnOneDay x, int p, int... due) {
        int sum = 0;
        for (int d = 0; d < due.length; d++) {
            due(what + " on day " + d, x.weight(p, d), due[d]);
            sum += due[d];
        }
        due(what + " together", x.told(p, 4), sum);
    }

    private static void kinds() {
        TwoOnOneDay x = new TwoOnOneDay();
        x.set(0, 0, 5);
        for (int kind = 0; kind < 6; kind++) {
            x.person(kind, 4, 4);
        }
        weights("12 a person", x, 0, 1, 1, 1, 1, 1);
        weights("12 a spring", x, 1, 5, 5, 5, 1, 1);
        weights("12 a told", x, 2, 0, 0, 0, 0, 1);
        weights("12 a late", x, 3, 0, 5, 0, 1, 0);
        weights("12 a nearly, round the year", x, 4, 5, 0, 0, 0, 1);
        weights("12 a shy", x, 5, 1, 1, 1, 1, 1);
        int[] doubts = {1, 1, 5, 1, 10, 1};
        for (int kind = 0; kind < 6; kind++) {
            due("11 doubts", x.told(kind, 3), doubts[kind]);
        }
        x.move(4, 2);
        weights("12 a nearly that moved", x, 4, 0, 0, 1, 5, 0);
        x.move(4, 3);
        weights("12 a nearly that moved", x, 4, 0, 0, 0, 1, 5);
        x.set(1, 1, 9);
        x.set(1, 3, 6);
        Check.law(x, "weighs born+told-4;pays 1;asks 1;");
        weights("12 a person by a law", x, 0, 0, 9, 0, 6, 0);
        weights("12 a spring by a law, nine at most", x, 1, 4, 9, 4, 6, 0);
        weights("12 a told by a law", x, 2, 0, 0, 0, 0, 1);
        weights("12 a late by a law", x, 3, 0, 9, 0, 6, 0);
        weights("12 a shy by a law", x, 5, 1, 1, 1, 1, 1);
        x.move(0, 3);
        weights("12 a person that moved", x, 0, 0, 8, 0, 5, 0);
        x.set(1, 0, 4);
        weights("12 when others are born", x, 0, 3, 8, 0, 5, 0);
        x.force(0);
        weights("12 by the old law", x, 0, 1, 1, 1, 1, 1);
        due("2 six days", x.set(0, 0, 6), 5);
        weights("12 a spring of six days", x, 1, 5, 5, 5, 1, 1, 1);
        // below 0 is the bound before more comes
        Check.law(x, "weighs -5;pays 1;asks 1;");
        weights("12 the bound first", x, 1, 4, 4, 4, 0, 0, 0);
        TwoOnOneDay y = new TwoOnOneDay();
        y.set(0, 0, 1);
        y.person(4, 9, 0);
        y.person(4, 0, 0);
        weights("12 the day behind is its own, nine at most", y, 0, 9);
        weights("12 the day behind is its own", y, 1, 1);
        due("11 doubts", y.told(0, 3), 20);
    }

    // ---- promises 13 to 21

    private static void howLikely() {
        TwoOnOneDay nobody = new TwoOnOneDay();
        Check.fraction("13 nobody", part -> nobody.meets(1, part), 0, 1);
        Check.fraction("14 nobody", part -> nobody.among(0, part), 0, 1);
        due("16 nobody", nobody.likeliest(), 0);

        // three of three days: 27 ways, 6 apart, 18 a pair, 3 all together
        TwoOnOneDay x = persons(3, 3);
        Check.fraction("13 one", part -> x.meets(1, part), 1, 1);
        Check.fraction("13 two", part -> x.meets(2, part), 7, 9);
        Check.fraction("13 three", part -> x.meets(3, part), 1, 9);
        Check.fraction("13 four", part -> x.meets(4, part), 0, 1);
        Check.fraction("13 seven", part -> x.meets(7, part), 0, 1);
        Check.none("13 none", part -> x.meets(0, part));
        Check.none("13 eight", part -> x.meets(8, part));
        Check.fraction("14 all", part -> x.among(7, part), 7, 9);
        Check.fraction("14 two of them", part -> x.among(5, part), 1, 3);
        Check.fraction("14 one alone", part -> x.among(4, part), 0, 1);
        Check.fraction("14 none", part -> x.among(0, part), 0, 1);
        Check.none("14 no such set", part -> x.among(8, part));
        Check.none("14 no such set", part -> x.among(-1, part));
        Check.fraction("15 a day", part -> x.mine(2, part), 19, 27);
        Check.none("15 no day", part -> x.mine(3, part));
        Check.none("15 no day", part -> x.mine(-1, part));
        due("16 of like ones the first", x.likeliest(), 0);
        TwoOnOneDay told = new TwoOnOneDay();
        told.person(2, 0, 3);
        due("16 in one way alone", told.likeliest(), 3);
        Check.fraction("17 no pairs", part -> x.many(0, 0, part), 2, 9);
        Check.fraction("17 a pair", part -> x.many(0, 1, part), 2, 3);
        Check.fraction("17 two pairs", part -> x.many(0, 2, part), 0, 1);
        Check.fraction("17 three pairs", part -> x.many(0, 3, part), 1, 9);
        Check.fraction("17 21 pairs", part -> x.many(0, 21, part), 0, 1);
        Check.fraction("17 no day", part -> x.many(1, 0, part), 0, 1);
        Check.fraction("17 one day", part -> x.many(1, 1, part), 1, 9);
        Check.fraction("17 two days", part -> x.many(1, 2, part), 2, 3);
        Check.fraction("17 three days", part -> x.many(1, 3, part), 2, 9);
        Check.fraction("17 21 days", part -> x.many(1, 21, part), 0, 1);
        Check.none("17 below 0", part -> x.many(0, -1, part));
        Check.none("17 22", part -> x.many(1, 22, part));
        Check.none("17 sort", part -> x.many(2, 0, part));
        Check.none("17 sort", part -> x.many(-1, 0, part));
        due("18 pairs", x.likely(0), 1);
        due("18 days", x.likely(1), 2);
        due("18 sort", x.likely(2), BAD);
        due("18 sort", x.likely(-1), BAD);
        Check.fraction("19 pairs", part -> x.mean(0, part), 1, 1);
        Check.fraction("19 days", part -> x.mean(1, part), 19, 9);
        Check.none("19 sort", part -> x.mean(2, part));
        Check.none("19 sort", part -> x.mean(-1, part));
        Check.fraction("20 no days", part -> x.covers(0, part), 1, 1);
        Check.fraction("20 a day", part -> x.covers(4, part), 19, 27);
        Check.fraction("20 two days", part -> x.covers(5, part), 4, 9);
        Check.fraction("20 all days", part -> x.covers(7, part), 2, 9);
        Check.none("20 no such day", part -> x.covers(8, part));
        Check.none("20 no such day", part -> x.covers(-1, part));
        Check.fraction("21 near by none", part -> x.near(0, part), 7, 9);
        Check.fraction("21 near by one", part -> x.near(1, part), 1, 1);
        Check.fraction("21 near by 24", part -> x.near(24, part), 1, 1);
        Check.none("21 25", part -> x.near(25, part));
        Check.none("21 below 0", part -> x.near(-1, part));
        moreLikely();
        nearByOthers();
        noWays();
        firstCalls();
    }

    private static void moreLikely() {
        // five days; a told on day 4, and a person: 0 is next to 4 round the year
        TwoOnOneDay x = new TwoOnOneDay();
        x.set(0, 0, 5);
        x.person(2, 0, 4);
        Check.fraction("21 one alone", part -> x.near(4, part), 0, 1);
        x.person(0, 0, 0);
        Check.fraction("21 round the year", part -> x.near(1, part), 3, 5);
        Check.fraction("21 either way", part -> x.near(2, part), 1, 1);
        Check.fraction("21 none", part -> x.near(0, part), 1, 5);
        due("16 told", x.likeliest(), 4);
        Check.fraction("20 more days than people", part -> x.covers(7, part), 0, 1);
        Check.fraction("20 two days", part -> x.covers(0b10001, part), 1, 5);
        // like ones: each of 1 and 2 days, as often
        TwoOnOneDay y = new TwoOnOneDay();
        y.set(0, 0, 2);
        y.person(0, 0, 0);
        y.person(0, 0, 0);
        due("18 of like ones the least", y.likely(0), 0);
        due("18 of like ones the least", y.likely(1), 1);
        // weights of its own: 3 and 1 of the first, 3 and 1 of the second
        Check.law(y, "weighs 3-2*day;pays 1;asks 1;");
        Check.fraction("13 by weights", part -> y.meets(2, part), 5, 8);
        Check.fraction("15 by weights", part -> y.mine(0, part), 15, 16);
        Check.fraction("19 by weights", part -> y.mean(1, part), 11, 8);
        // seven on one day
        TwoOnOneDay z = persons(1, 7);
        Check.fraction("17 21 pairs", part -> z.many(0, 21, part), 1, 1);
        due("18 21 pairs", z.likely(0), 21);
        Check.fraction("19 21 pairs", part -> z.mean(0, part), 21, 1);
        Check.fraction("13 seven", part -> z.meets(7, part), 1, 1);
    }

    private static void nearByOthers() {
        // three of six days: 0 2 4 or 1 3 5, in any order, are 12 of 216
        TwoOnOneDay x = persons(6, 3);
        Check.fraction("21 three", part -> x.near(1, part), 17, 18);
        Check.fraction("21 three", part -> x.near(2, part), 1, 1);
        // two of seven days: 3 or 4 apart are 14 of 49
        TwoOnOneDay y = persons(7, 2);
        Check.fraction("21 two", part -> y.near(2, part), 5, 7);
        Check.fraction("21 two", part -> y.near(3, part), 1, 1);
        // on days 0 and 3 of eight: from both further than 1 are 5 and 6
        TwoOnOneDay z = new TwoOnOneDay();
        z.set(0, 0, 8);
        z.person(2, 0, 0);
        z.person(0, 0, 1);
        z.person(2, 0, 3);
        Check.fraction("21 two are told", part -> z.near(0, part), 1, 4);
        Check.fraction("21 two are told", part -> z.near(1, part), 3, 4);
        Check.fraction("21 two are told", part -> z.near(2, part), 1, 1);
        // six of 24 days, each 4 behind the last one: 4 times 720 ways of 24 to the sixth
        Check.fraction("21 six of 24", part -> persons(24, 6).near(3, part), 331771, 331776);
        Check.fraction("21 seven of 24", part -> persons(24, 7).near(3, part), 1, 1);
    }

    /** What is asked first of all, and again when something has changed. */
    private static void firstCalls() {
        Check.fraction("13 at once", part -> persons(3, 3).meets(2, part), 7, 9);
        Check.fraction("14 at once", part -> persons(3, 3).among(3, part), 1, 3);
        Check.fraction("15 at once", part -> persons(3, 3).mine(1, part), 19, 27);
        Check.fraction("17 at once", part -> persons(3, 3).many(0, 1, part), 2, 3);
        Check.fraction("17 at once", part -> persons(3, 3).many(1, 2, part), 2, 3);
        due("18 at once", persons(3, 3).likely(0), 1);
        due("18 at once", persons(3, 3).likely(1), 2);
        Check.fraction("19 at once", part -> persons(3, 3).mean(0, part), 1, 1);
        Check.fraction("20 at once", part -> persons(3, 3).covers(7, part), 2, 9);
        Check.fraction("21 at once", part -> persons(3, 3).near(0, part), 7, 9);
        due("22 at once", persons(3, 3).needs(50), 3);
        Check.fraction("23 at once", part -> persons(3, 3).first(2, part), 4, 9);
        due("24 at once", persons(3, 3).place(), 2);
        Check.fraction("25 at once", part -> persons(3, 3).asked(part), 8, 3);
        due("26 at once", persons(3, 3).host(3, 0), 7);
        due("26 at once", persons(3, 3).host(2, 2), 3);
        due("27 at once", persons(3, 3).cheap(40, 1), 3);
        Check.fraction("28 at once", part -> persons(3, 3).wager(3, part), -2, 3);
        due("35 at once", persons(3, 3).drawn(0, 0), 48271 % 3);
        Check.fraction("37 at once", part -> persons(3, 4).odds(0, 9, part), 1, 1);
        due("11 at once", persons(3, 3).told(2, 4), 3);
        due("12 at once", persons(3, 3).weight(2, 2), 1);
        TwoOnOneDay x = persons(3, 1);
        x.person(2, 1, 1);
        Check.row(x, 0, 2, 0, 2);
        due("30 at once", x.list(0, 3), 2);
        x.move(1, 2);
        due("30 when one moved", x.list(0, 3), 0);
        Check.fraction("31 at once", part -> x.comes(0, part), 1, 3);
        Check.row(x, 0, 2, 1, 1);
        x.set(0, 0, 4);
        Check.fraction("32 when there are more days", part -> x.luck(0, part), 1, 4);
        Check.fraction("13 the same again", part -> x.meets(2, part), 1, 4);
        x.person(0, 0, 0);
        Check.fraction("13 when one more came", part -> x.meets(2, part), 5, 8);
        Check.fraction("17 when one more came", part -> x.many(0, 3, part), 1, 16);
        Check.fraction("17 when one more came", part -> x.many(1, 1, part), 1, 16);
        Check.law(x, "weighs day=2;pays 1;asks 1;");
        Check.fraction("13 by another law", part -> x.meets(3, part), 1, 1);
        Check.fraction("17 by another law", part -> x.many(0, 3, part), 1, 1);
        Check.fraction("17 by another law", part -> x.many(1, 1, part), 1, 1);
    }

    private static void noWays() {
        TwoOnOneDay x = persons(1, 2);
        x.person(3, 9, 0);
        Check.none("13 no ways", part -> x.meets(2, part));
        Check.none("14 no ways", part -> x.among(4, part));
        Check.fraction("14 ways of that set", part -> x.among(3, part), 1, 1);
        Check.none("15 no ways", part -> x.mine(0, part));
        due("16 no ways", x.likeliest(), 0);
        Check.none("17 no ways", part -> x.many(0, 0, part));
        due("18 no ways", x.likely(1), 0);
        Check.none("19 no ways", part -> x.mean(0, part));
        Check.none("20 no ways", part -> x.covers(0, part));
        Check.none("21 no ways", part -> x.near(0, part));
        due("22 ways of the first two", x.needs(100), 2);
        Check.fraction("23 ways up to it", part -> x.first(1, part), 1, 1);
        Check.none("23 no ways", part -> x.first(2, part));
        due("24 ways up to it", x.place(), 1);
        Check.none("25 no ways", x::asked);
        due("26 no ways", x.host(3, 0), -1);
        due("27 ways of a set", x.cheap(100, 0), 3);
        Check.none("28 no ways", part -> x.wager(4, part));
        Check.fraction("28 ways of that set", part -> x.wager(3, part), 2, 1);
        Check.row(x, 0, 2, 0, 0, 0);
        Check.none("31 no ways", part -> x.comes(0, part));
        Check.none("32 no ways", part -> x.luck(0, part));
        due("35 no day", x.drawn(0, 2), -1);
        // where the first has no ways, none up to anyone has
        TwoOnOneDay y = new TwoOnOneDay();
        y.set(0, 0, 1);
        y.person(3, 0, 0);
        y.person(0, 0, 0);
        y.person(0, 0, 0);
        due("22 no ways", y.needs(1), -1);
        due("24 no ways", y.place(), -1);
        Check.none("23 no ways", part -> y.first(0, part));
    }

    // ---- promises 22 to 25

    private static void oneByOne() {
        TwoOnOneDay x = persons(4, 5);
        due("22 0 of 100", x.needs(0), BAD);
        due("22 101 of 100", x.needs(101), BAD);
        due("22 1", x.needs(1), 2);
        due("22 just as likely", x.needs(25), 2);
        due("22 a little more", x.needs(26), 3);
        due("22 sure", x.needs(100), 5);
        due("22 none", persons(5, 5).needs(100), -1);
        due("22 nobody", persons(5, 0).needs(1), -1);
        Check.fraction("23 the first", part -> x.first(0, part), 0, 1);
        Check.fraction("23 the second", part -> x.first(1, part), 1, 4);
        Check.fraction("23 the third", part -> x.first(2, part), 3, 8);
        Check.fraction("23 the fourth", part -> x.first(3, part), 9, 32);
        Check.fraction("23 the fifth", part -> x.first(4, part), 3, 32);
        Check.none("23 no one", part -> x.first(5, part));
        Check.none("23 no one", part -> x.first(-1, part));
        due("24 the third", x.place(), 2);
        due("24 of like ones the first", persons(2, 3).place(), 1);
        due("24 one alone", persons(2, 1).place(), -1);
        due("24 nobody", persons(2, 0).place(), -1);
        // 1 of 2, and 1 of 2 again by ten times as many ways
        TwoOnOneDay y = persons(2, 2);
        y.person(1, 9, 0);
        due("24 by ways of those up to it", y.place(), 1);
        Check.fraction("23 by ways of those up to it", part -> y.first(2, part), 1, 2);
        Check.fraction("25 five", x::asked, 103, 32);
        Check.fraction("25 nobody", persons(3, 0)::asked, 0, 1);
        Check.fraction("25 one", persons(3, 1)::asked, 1, 1);
        Check.fraction("25 two", persons(3, 2)::asked, 2, 1);
        Check.fraction("25 three", persons(3, 3)::asked, 8, 3);
    }

    // ---- promises 26 to 28

    private static void whomToAsk() {
        TwoOnOneDay x = new TwoOnOneDay();
        x.set(0, 0, 4);
        x.person(0, 0, 1);
        x.person(2, 0, 1);
        x.person(2, 0, 1);
        x.person(3, 1, 3);
        x.person(5, 5, 2);
        due("26 none", x.host(0, 0), NO);
        due("26 eight", x.host(8, 0), NO);
        due("26 what", x.host(1, 3), NO);
        due("26 what", x.host(1, -1), NO);
        due("26 one: the least as bits", x.host(1, 0), 1);
        due("26 one", x.host(1, 1), 0);
        due("26 one", x.host(1, 2), 1);
        due("26 two who are told", x.host(2, 0), 6);
        due("26 surely", x.host(2, 1), 1);
        due("26 surely", x.host(2, 2), 1);
        due("26 three: the least as bits", x.host(3, 0), 7);
        // the late one comes with one other, the shy one too
        due("26 four: who comes along", x.host(4, 0), -1);
        due("26 four: none", x.host(4, 1), NO);
        due("26 four: none", x.host(4, 2), NO);
        due("26 more than there are", x.host(7, 0), -1);

        due("27 0 of 100", x.cheap(0, 0), BAD);
        due("27 101 of 100", x.cheap(101, 0), BAD);
        due("27 what", x.cheap(1, 2), BAD);
        due("27 what", x.cheap(1, -1), BAD);
        due("27 two", x.cheap(100, 0), 6);
        due("27 asks", x.cheap(100, 1), 2);
        due("27 of like ones the least", x.cheap(25, 0), 3);
        due("27 none", persons(3, 2).cheap(34, 0), -1);
        due("27 none", persons(3, 2).cheap(34, 1), -1);
        due("27 just as likely", persons(4, 2).cheap(25, 0), 3);
        // on told days they ask 0, 5, 5, 9 and 0
        Check.law(x, "weighs 1;pays 10*who;asks 5*(told=1 and not who=0)+9*(day=3);");
        due("27 cheaper", x.cheap(20, 0), 17);
        due("27 asks", x.cheap(20, 1), 0);
        due("27 surely", x.cheap(100, 1), 10);
        Check.fraction("28 none", part -> x.wager(0, part), 0, 1);
        Check.fraction("28 two who are told", part -> x.wager(6, part), 20, 1);
        Check.fraction("28 below 0", part -> x.wager(2, part), -5, 1);
        // 3 and 4: pays 30 and 40 (day 3 weighs 1 for the one, day 3 is one of four): 70 / 4 - 9
        Check.fraction("28 a fraction", part -> x.wager(24, part), 17, 2);
        Check.none("28 no such set", part -> x.wager(32, part));
        Check.none("28 no such set", part -> x.wager(-1, part));

        // 26, 27: a late one with as many others as it has more
        TwoOnOneDay late = new TwoOnOneDay();
        late.set(0, 0, 2);
        late.person(2, 0, 1);
        late.person(3, 1, 0);
        late.person(2, 0, 0);
        due("26 late with one", late.host(2, 0), 3);
        due("26 late with two", late.host(3, 0), -1);
        late.person(3, 2, 0);
        due("26 two late with two", late.host(3, 0), 13);

        // 26: compared as fractions, not as numbers above the line: 1 of 2 beats 3 of 9
        TwoOnOneDay y = new TwoOnOneDay();
        y.set(0, 0, 3);
        y.person(0, 0, 0);
        y.person(0, 0, 0);
        y.person(4, 0, 0);
        y.person(2, 0, 0);
        due("26 likelier", y.host(2, 0), 12);
        due("26 likelier", y.host(2, 2), 2);
        // 26, 27: a shy one with MORE by 3, cut
        TwoOnOneDay z = new TwoOnOneDay();
        z.set(0, 0, 1);
        z.person(5, 2, 0);
        z.person(0, 0, 0);
        z.person(5, 8, 0);
        z.person(0, 0, 0);
        due("26 too shy", z.host(2, 0), 6);
        due("26 not too shy", z.host(3, 0), 14);
        due("26 too many", z.host(4, 0), -1);
        due("27 those who come", z.cheap(1, 0), 6);
    }

    // ---- promises 29 to 34

    private static void toldLists() {
        TwoOnOneDay x = new TwoOnOneDay();
        x.set(0, 0, 4);
        x.person(0, 0, 1);
        x.person(2, 2, 1);
        x.person(4, 3, 3);
        for (int s : new int[] {-1, 4, MIN, MAX}) {
            due("29 no sheet", x.judge(s), BAD);
            due("30 no sheet", x.list(s, 0), BAD);
            due("33 no sheet", x.laws(s), BAD);
            due("34 no sheet", x.can(s, 9, 9), BAD);
            int none = s;
            Check.none("31 no sheet", part -> x.comes(none, part));
            Check.none("32 no sheet", part -> x.luck(none, part));
        }
        due("29 missing", x.judge(1), -11);
        due("30 missing", x.list(1, 9), -11);
        due("33 missing", x.laws(1), -11);
        due("34 missing", x.can(1, 9, 9), -11);
        Check.none("31 missing", part -> x.comes(1, part));
        Check.none("32 missing", part -> x.luck(1, part));
        int[][] no = {{}, {1, 1}, {1, 1, 1, 1}, {1, 1, 4}, {-1, 1, 1}};
        for (int[] row : no) {
            Check.row(x, 1, 2, row);
            due("29 no list", x.judge(1), BAD);
            due("30 no list", x.list(1, 0), BAD);
            due("33 no list", x.laws(1), BAD);
            due("34 no list", x.can(1, 9, 9), BAD);
            Check.none("31 no list", part -> x.comes(1, part));
            Check.none("32 no list", part -> x.luck(1, part));
        }
        Check.row(x, 0, 0, 1, 1, 0);
        due("29 none is wrong", x.judge(0), -1);
        due("30 the first on one's day", x.list(0, 0), 1);
        due("30 pairs", x.list(0, 1), 1);
        due("30 days", x.list(0, 2), 3);
        due("30 no doubts", x.list(0, 3), 0);
        due("30 what", x.list(0, 4), BAD);
        due("30 what", x.list(0, -1), BAD);
        // the ways: 4 times 1 times 5, and this one counts 1 * 1 * 4
        Check.fraction("31", part -> x.comes(0, part), 1, 5);
        due("33", x.laws(0), 1);
        Check.row(x, 0, 1, 3, 2, 1);
        due("29 the first who is wrong", x.judge(0), 1);
        due("30 nobody on one's day", x.list(0, 0), -1);
        due("30 no pairs", x.list(0, 1), 0);
        due("30 days", x.list(0, 2), 14);
        due("30 doubts: 3 and 8", x.list(0, 3), 11);
        Check.fraction("31 never", part -> x.comes(0, part), 0, 1);
        Check.fraction("32 always", part -> x.luck(0, part), 1, 1);
        Check.row(x, 0, 2, 1, 1, 1);
        due("30 three pairs", x.list(0, 1), 3);
        Check.fraction("32 one day alone never", part -> x.luck(0, part), 0, 1);
        Check.row(x, 0, 2, 2, 1, 2);
        due("30 the first on one's day", x.list(0, 0), 2);
        // two days taken: of 4 days 0 .. 3 for the first, 1 the second, 0 (4 times) or 3 the third
        Check.fraction("32 two days", part -> x.luck(0, part), 1, 2);
        lawsAndCan();

        TwoOnOneDay nobody = new TwoOnOneDay();
        nobody.sheet(2, 1, 0);
        due("29 nobody", nobody.judge(2), -1);
        due("30 nobody", nobody.list(2, 0), -1);
        due("33 nobody", nobody.laws(2), 1);
        due("34 nobody", nobody.can(2, 0, 0), -5);
        Check.fraction("31 nobody", part -> nobody.comes(2, part), 1, 1);
        Check.fraction("32 nobody", part -> nobody.luck(2, part), 1, 1);
    }

    private static void lawsAndCan() {
        TwoOnOneDay x = new TwoOnOneDay();
        x.set(0, 0, 4);
        x.person(0, 2, 1);
        x.person(1, 2, 3);
        Check.text(x, "weighs day=told+1;pays 1;asks 1;");
        Check.text(x, "weighs day<2;pays 1;asks 1;");
        Check.row(x, 0, 2, 2, 1);
        due("33 texts", x.laws(0), 3);
        x.cell(0, 0, 1);
        due("33 texts", x.laws(0), 5);
        TwoOnOneDay told = new TwoOnOneDay();
        told.person(2, 0, 3);
        Check.row(told, 0, 0, 4);
        due("33 by none", told.laws(0), 0);
        x.force(1);
        due("29 by the law", x.judge(0), 0);
        due("34 told days", x.can(0, 0, 0), 1);
        due("34 told days: all by more", x.can(0, 1, 0), 15);
        due("34 no one", x.can(0, 2, 9), -5);
        due("34 no one", x.can(0, -1, 0), -5);
        due("34 sort", x.can(0, 0, 2), -7);
        due("34 sort", x.can(0, 0, -1), -7);
        // of day 1, told day 1, two more: a spring, a told, a late, a nearly, a shy one
        due("34 kinds", x.can(0, 0, 1), 0b111110);
        x.cell(0, 0, 2);
        // of day 2: a person and a spring by the law (it is told + 1), a nearly, a shy one
        due("34 kinds", x.can(0, 0, 1), 0b110011);
        x.force(0);
        x.cell(0, 1, 0);
        // of day 0, told day 3: a nearly round the year
        due("34 kinds", x.can(0, 1, 1), 0b110011);
        x.set(0, 0, 6);
        x.move(1, 2);
        // of day 0, told day 2, of six: a person, a spring, a shy one
        due("34 kinds", x.can(0, 1, 1), 0b100011);
        Check.law(x, "weighs 0;pays 1;asks 1;");
        due("34 kinds: none but a spring and a shy one", x.can(0, 1, 1), 0b100010);
        x.cell(0, 1, 5);
        due("34 kinds: a shy one alone", x.can(0, 1, 1), 0b100000);
        due("34 told days: none", x.can(0, 1, 0), 0);
        due("34 unchanged", x.told(1, 0), 1);
        due("34 unchanged", x.told(0, 2), 1);
    }

    // ---- promises 35 to 37

    private static void byLot() {
        TwoOnOneDay x = new TwoOnOneDay();
        x.set(0, 0, 5);
        x.person(0, 0, 1);
        x.person(1, 2, 3);
        x.person(3, 0, 0);
        due("35 no one", x.drawn(-1, 3), -5);
        due("35 no one", x.drawn(0, -1), -5);
        due("35 seed", x.drawn(-1, 0), -7);
        due("35 seed", x.drawn(100000, 0), -7);
        // lots by seed 0: 48271, 48271 * 48271 mod 2147483647 = 182605794, then 1291394886
        due("35 the first: 48271 mod 5", x.drawn(0, 0), 1);
        due("35 the second: 182605794 mod 11 = 4 of 3 3 3 1 1", x.drawn(0, 1), 182605794 % 11 / 3);
        due("35 the third: of 1 and 3", x.drawn(0, 2), 1291394886 % 2 == 0 ? 1 : 3);
        due("35 the last seed", x.drawn(99999, 0), (int) (100000L * 48271 % 2147483647 % 5));
        due("36 no sheet", x.film(4, 0), BAD);
        due("36 no sheet", x.film(-1, 0), BAD);
        due("36 seed", x.film(0, -1), BAD);
        due("36 seed", x.film(0, 100000), BAD);
        due("36 how many", x.film(2, 0), 3);
        due("36 ints", x.copy(2, 0, 2, 0, 3), 3);
        due("36 three of them", x.copy(2, 0, 2, 1, 3), -12);
        x.sheet(3, 2, 3);
        due("36 ints", x.copy(2, 0, 3, 0, 3), 3);
        due("36 days", x.list(3, 2), 1 << x.drawn(0, 0) | 1 << x.drawn(0, 1) | 1 << x.drawn(0, 2));
        x.set(0, 0, 4);
        Check.law(x, "weighs who=0;pays 1;asks 1;");
        x.film(2, 5);
        due("36 none is -1", x.judge(2), x.drawn(5, 2) < 0 ? BAD : 0);

        Check.none("37 seed", part -> x.odds(-1, 1, part));
        Check.none("37 seed", part -> x.odds(100000, 1, part));
        Check.none("37 no seeds", part -> x.odds(0, 0, part));
        Check.none("37 too many", part -> x.odds(0, 51, part));
        TwoOnOneDay y = persons(7, 3);
        int met = 0;
        for (int seed = 99990; seed < 99990 + 30; seed++) {
            long a = (seed + 1) * 48271L % 2147483647;
            long b = a * 48271L % 2147483647;
            long c = b * 48271L % 2147483647;
            met += a % 7 == b % 7 || a % 7 == c % 7 || b % 7 == c % 7 ? 1 : 0;
        }
        int common = gcd(met, 30);
        Check.fraction("37 past 99999", part -> y.odds(99990, 30, part), met / common, 30 / common);
        Check.fraction("37 always", part -> persons(1, 2).odds(99999, 50, part), 1, 1);
        Check.fraction("37 nobody", part -> persons(1, 0).odds(0, 1, part), 0, 1);
        TwoOnOneDay z = new TwoOnOneDay();
        z.set(0, 0, 1);
        z.person(3, 0, 0);
        z.person(3, 0, 0);
        Check.fraction("37 who have no day do not meet", part -> z.odds(0, 50, part), 0, 1);
    }

    private static int gcd(int a, int b) {
        return b == 0 ? a : gcd(b, a % b);
    }

    // ---- promises 38 and 39

    private static void images() {
        TwoOnOneDay x = new TwoOnOneDay();
        due("39 none", x.back(), STATE);
        x.person(2, 1, 3);
        x.person(0, 0, 11);
        x.set(1, 5, 4);
        Check.text(x, "weighs 2;pays 1;asks 1;");
        x.force(1);
        due("38", x.image(), 2);
        x.person(0, 0, 0);
        x.move(0, 7);
        x.move(1, 2);
        due("12 weights ahead of 39", x.weight(0, 7), 1);
        x.set(1, 5, 9);
        x.set(1, 11, 1);
        x.set(0, 0, 9);
        x.force(0);
        Check.text(x, "weighs 3;pays 1;asks 1;");
        Check.tape(x, "abc");
        Check.row(x, 0, 0, 1, 2);
        due("12 weights ahead of 39", x.weight(1, 0), 1);
        due("12 weights ahead of 39", x.weight(0, 7), 1);
        due("39", x.back(), 2);
        due("39 people", x.count(0), 2);
        due("39 the year", x.count(1), 12);
        due("39 texts stay", x.count(2), 3);
        due("39 the law", x.count(3), 1);
        due("39 the tape stays", x.count(4), 3);
        due("39 born", x.bornOn(5), 4);
        due("39 born", x.bornOn(11), 0);
        due("39 told day", x.told(0, 2), 3);
        due("39 told day", x.told(1, 2), 11);
        due("39 weights", x.weight(1, 0), 2);
        due("39 weights", x.weight(0, 7), 0);
        due("39 weights", x.weight(0, 3), 1);
        due("39 sheets stay", x.list(0, 1), 0);
        due("9 the number again", x.person(4, 1, 1), 2);
        due("11 another one", x.told(2, 0), 4);
        due("39 again", x.back(), 2);
        due("38 another image", x.image(), 2);
        x.person(0, 0, 0);
        due("38 another image", x.image(), 3);
        due("39 it is the last one", x.back(), 3);
    }

    // ---- promises 40 to 44

    private static void theHost() {
        TwoOnOneDay x = new TwoOnOneDay();
        due("40 no sheet", x.sheet(-1, 0, 0), BAD);
        due("40 no sheet", x.sheet(4, 0, -1), BAD);
        due("40 sort", x.sheet(0, -2, 0), BAD);
        due("40 sort", x.sheet(0, 3, 0), BAD);
        due("40 too long", x.sheet(0, 1, 41), BAD);
        due("40 below 0", x.sheet(0, 1, -1), -14);
        due("40 still missing", x.cell(0, 0, 0), -11);
        due("40 a row", x.sheet(0, 1, 40), 1);
        due("41 no sheet", x.cell(4, 0, 0), BAD);
        due("41 no sheet", x.cell(-1, 0, 0), BAD);
        due("41 missing", x.cell(1, 99, 0), -11);
        due("41 outside", x.cell(0, 40, 0), -12);
        due("41 outside", x.cell(0, -1, 0), -12);
        due("41 the last one", x.cell(0, 39, 5), 1);
        due("40 missing again", x.sheet(0, -1, 99), 1);
        due("41 missing again", x.cell(0, 0, 0), -11);
        narrowNumbers();
        copies();
        comings();
        takings();
    }

    private static void narrowNumbers() {
        TwoOnOneDay x = persons(12, 2);
        x.sheet(0, 0, 2);
        due("40 all 0", x.list(0, 2), 1);
        x.cell(0, 0, 256 + 3);
        x.cell(0, 1, -512 + 5);
        due("41 the lowest 8 bits", x.list(0, 2), 1 << 3 | 1 << 5);
        x.sheet(0, 1, 2);
        due("40 all 0 again", x.list(0, 1), 1);
        x.cell(0, 0, 65536 + 3);
        x.cell(0, 1, -65536 + 5);
        due("41 the lowest 16 bits", x.list(0, 2), 1 << 3 | 1 << 5);
        x.cell(0, 0, 256 + 3);
        due("41 of shorts more than 8 bits", x.list(0, 2), BAD);
        x.sheet(0, 2, 2);
        x.cell(0, 0, 65536 + 3);
        due("41 of ints all bits", x.list(0, 2), BAD);
    }

    private static void copies() {
        TwoOnOneDay x = persons(12, 4);
        Check.row(x, 0, 2, 0, 1, 2, 3);
        Check.row(x, 1, 2, 4, 5, 6, 7);
        due("42 no sheet", x.copy(-1, 0, 0, 0, 1), BAD);
        due("42 no sheet", x.copy(0, 0, 4, 0, 1), BAD);
        due("42 no sheet", x.copy(2, 0, 4, 0, 1), BAD);
        due("42 missing", x.copy(2, 9, 0, 9, 9), -11);
        due("42 missing", x.copy(0, 9, 2, 9, 9), -11);
        x.sheet(2, 1, 4);
        due("42 unlike", x.copy(0, 9, 2, 9, 9), -13);
        due("42 outside", x.copy(0, -1, 1, 0, 1), -12);
        due("42 outside", x.copy(0, 0, 1, -1, 1), -12);
        due("42 below 0", x.copy(0, 0, 1, 0, -1), -12);
        due("42 too many", x.copy(0, 1, 1, 0, 4), -12);
        due("42 too many", x.copy(0, 0, 1, 1, 4), -12);
        due("42 far too many", x.copy(0, 1, 1, 1, MAX), -12);
        due("42 far outside", x.copy(0, MAX, 1, 0, MAX), -12);
        due("42 far outside", x.copy(0, 0, 1, MAX, 1), -12);
        due("42 none, at the end", x.copy(0, 4, 1, 4, 0), 0);
        due("42 none, behind the end", x.copy(0, 5, 1, 0, 0), -12);
        due("42 unchanged", x.list(1, 2), 0b11110000);
        due("42 two", x.copy(0, 0, 1, 2, 2), 2);
        due("42 came", x.list(1, 2), 0b00110011);
        due("42 its own, as they were", x.copy(0, 0, 0, 1, 3), 3);
        due("42 0 0 1 2", x.list(0, 2), 0b111);
        due("42 0 0 1 2", x.list(0, 0), 1);
        x.cell(0, 0, 9);
        due("42 its own, the other way", x.copy(0, 1, 0, 0, 3), 3);
        due("42 0 1 2 2", x.list(0, 0), 3);
    }

    private static void comings() {
        TwoOnOneDay x = new TwoOnOneDay();
        Check.row(x, 0, 0, 7, 1, 2, 3, 6, 0, 0, 0, 3, 11);
        due("43 no sheet", x.peopleBy(4, 0, 0, 1), BAD);
        due("43 no sheet", x.peopleBy(-1, 0, 0, 1), BAD);
        due("43 sort", x.peopleBy(0, 3, 0, 1), BAD);
        due("43 sort", x.peopleBy(0, -1, 0, 1), BAD);
        due("43 eight", x.peopleBy(0, 0, 0, 8), BAD);
        due("43 below 0", x.peopleBy(0, 0, 0, -1), BAD);
        due("43 missing", x.peopleBy(1, 0, 0, 1), -11);
        due("43 another sort", x.peopleBy(0, 1, 0, 1), -13);
        due("43 outside", x.peopleBy(0, 0, -1, 1), -12);
        due("43 outside", x.peopleBy(0, 0, 8, 1), -12);
        due("43 far outside", x.peopleBy(0, 0, MAX, 1), -12);
        due("43 far outside", x.peopleBy(0, 0, MAX - 2, 7), -12);
        due("43 far outside", x.peopleBy(0, 0, MIN, 7), -12);
        due("43 nobody came", x.count(0), 0);
        due("43 none", x.peopleBy(0, 0, 0, 0), 0);
        TwoOnOneDay y = new TwoOnOneDay();
        Check.row(y, 2, 1, 5, 9, 11, 3);
        due("43 shorts", y.peopleBy(2, 1, 0, 1), 1);
        Check.row(y, 3, 2, 7, 5, 8, 10);
        due("43 ints", y.peopleBy(3, 2, 1, 1), 1);
        due("43 who came", y.told(1, 0) * 1000 + y.told(1, 1) * 100 + y.told(1, 2), 5810);
        due("43 two came, one is left out", x.peopleBy(0, 0, 1, 3), 2);
        due("43 as of person()", x.told(0, 0) * 100 + x.told(0, 1) * 10 + x.told(0, 2), 123);
        due("43 as of person()", x.told(1, 0) * 100 + x.told(1, 1) * 10 + x.told(1, 2), 41);
        due("43 what stood ahead came", x.peopleBy(0, 0, 1, 4), -12);
        due("43 what stood ahead came", x.count(0), 4);
        x.person(0, 0, 0);
        x.person(0, 0, 0);
        due("43 there is room for one", x.peopleBy(0, 0, 1, 3), 1);
        due("43 then there is none", x.count(0), 7);
        due("43 then there is none", x.peopleBy(0, 0, 1, 3), 0);
    }

    private static void takings() {
        TwoOnOneDay x = new TwoOnOneDay();
        for (int kind = 0; kind < 6; kind++) {
            x.person(kind, 0, 0);
        }
        x.set(0, 0, 24);
        x.set(1, 23, 7);
        x.set(1, 11, 2);
        x.set(1, 0, 5);
        due("44 the first day", x.taken(0, 6), 5);
        due("44 outside", x.taken(MIN, 6), -12);
        due("44 kind", x.taken(99, 7), BAD);
        due("44 kind", x.taken(0, -1), BAD);
        due("44 outside", x.taken(31, 0), -12);
        due("44 outside", x.taken(-1, 6), -12);
        due("44 a day", x.taken(23, 6), 7);
        due("44 a day", x.taken(11, 6), 2);
        due("44 a day is no person", x.taken(11, 0), -13);
        due("44 none are born", x.taken(10, 6), -11);
        due("44 none are born", x.taken(10, 0), -11);
        x.set(0, 0, 23);
        due("44 no such day", x.taken(23, 6), -11);
        due("44 no such one", x.taken(30, 6), -11);
        due("44 a person is no day", x.taken(24, 6), -13);
        String[] isA = {"100000", "110000", "101000", "110100", "101010", "100001"};
        for (int p = 0; p < 6; p++) {
            for (int kind = 0; kind < 6; kind++) {
                due("44 " + p + " as " + kind, x.taken(24 + p, kind), isA[p].charAt(kind) == '1' ? p : -13);
            }
        }
    }
}
