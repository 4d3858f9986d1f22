/** Boundary cases of THE TAPE, of TEXTS and of what they say: promises 5 to 8, and the Terms of these. */
final class TextEdges {
    private static final int BAD = -2, FULL = -4;
    private static final int MIN = Integer.MIN_VALUE, MAX = Integer.MAX_VALUE;
    // in 32 bits: the least of all numbers, the greatest of all, 0
    private static final String LEAST = "8192*8192*32", MOST = "(8192*8192*32-1)", ROUND = "8192*8192*64";
    private static final String PLAIN = "weighs 3;pays 4;asks 5;";

    private TextEdges() { }

    static void all() {
        Sentences.sentence(5, "The first n (1 .. 5) of five bytes", TextEdges::howManyBytes);
        Sentences.sentence(5, "(0 .. 255 each)", TextEdges::bytes);
        Sentences.sentence(5, "come behind THE TAPE's, one by one: how many it has.", TextEdges::oneByOne);
        Sentences.sentence(5, "BAD: n, any of the five;", TextEdges::badBytes);
        Sentences.sentence(5, "FULL: they have not all room (none comes).", TextEdges::noRoom);
        Sentences.sentence(Sentences.TERMS, "THE TAPE (160 bytes at most)", TextEdges::fullTape);
        Sentences.sentence(6, "THE TAPE, which is empty then (by a FAULT, too), is a TEXT: its number;", TextEdges::emptied);
        Sentences.sentence(6, "-100 less the place of its FAULT.", TextEdges::faultPlaces);
        Sentences.sentence(6, "FULL (ahead of the FAULT; then THE TAPE stays).", TextEdges::noTextMore);
        Sentences.sentence(Sentences.TERMS, "TEXTS are numbered from 0 on, 6 at most;", TextEdges::textNumbers);
        Sentences.sentence(Sentences.TERMS, "TEXT 0, at first, and THE LAW: weighs 1 ; pays 2 ; asks 1 ;",
            TextEdges::firstText);
        Sentences.sentence(7, "A TEXT is THE LAW: which was.", TextEdges::whichWas);
        Sentences.sentence(7, "BAD.", TextEdges::noText);
        Sentences.sentence(8, "What part 0 weighs, 1 pays, 2 asks says of one and a DAY.", TextEdges::parts);
        Sentences.sentence(8, "BAD.", TextEdges::badAsked);
        Sentences.sentence(Sentences.TERMS, "(weighs 0 .. 9, pays, asks 0 .. 40, else the bound)", TextEdges::bounds);
        Sentences.sentence(Sentences.TERMS, "An E is an int (32 bits, wrapping)", TextEdges::wrapping);
        Sentences.sentence(Sentences.TERMS, "of or, and, not, <, = 1 or 0 (what is not 0 is true)", TextEdges::truth);
        Sentences.sentence(Sentences.TERMS, "day; born: how many are BORN; year: how many DAYS; more: MORE; "
            + "told: TOLD DAY; who: its number.", TextEdges::names);
    }

    /** What an E of pays is of the one person there is. */
    static int value(String e) {
        TwoOnOneDay x = Made.persons(12, 1);
        Check.due("{" + e + "} is an E", Check.text(x, "weighs 1;pays " + e + ";asks 1;"), 1);
        x.force(1);
        return x.asks(1, 0, 0);
    }

    private static void isValue(String e, int due) {
        Check.due("{" + e + "}", value(e), due);
    }

    private static void howManyBytes() {
        TwoOnOneDay x = new TwoOnOneDay();
        int sum = 0;
        for (int n = 1; n <= 5; n++) {
            sum += n;
            Check.due("feed " + n, x.feed(n, 32, 32, 32, 32, 32), sum);
        }
        for (int n : new int[] {0, -1, 6, MIN, MAX}) {
            Check.due("feed " + n, x.feed(n, 32, 32, 32, 32, 32), BAD);
        }
        Check.due("no more came", x.count(4), 15);
        TwoOnOneDay y = new TwoOnOneDay();
        y.feed(3, 'w', 'e', 'i', '(', '(');
        y.feed(2, 'g', 'h', '(', '(', '(');
        y.feed(1, 's', '(', '(', '(', '(');
        y.feed(5, ' ', '1', ';', 'p', 'a');
        y.feed(4, 'y', 's', ' ', '2', '(');
        y.feed(5, ';', 'a', 's', 'k', 's');
        y.feed(2, '3', ';', '(', '(', '(');
        Check.due("the first ones came", y.text(), 1);
    }

    private static void bytes() {
        TwoOnOneDay x = new TwoOnOneDay();
        Check.due("0", x.feed(5, 0, 0, 0, 0, 0), 5);
        Check.due("255", x.feed(5, 255, 255, 255, 255, 255), 10);
        Check.due("what does not come may be 0 and 255", x.feed(1, 32, 0, 255, 0, 255), 11);
        TwoOnOneDay y = new TwoOnOneDay();
        Check.due("256", y.feed(1, 256, 0, 0, 0, 0), BAD);
        Check.due("-1", y.feed(1, -1, 0, 0, 0, 0), BAD);
        Check.due("they do not come", y.count(4), 0);
    }

    private static void oneByOne() {
        for (int n = 1; n <= 5; n++) {
            TwoOnOneDay x = new TwoOnOneDay();
            String text = PLAIN + "     ";
            int fed = 0;
            for (int i = 0; i + 5 <= text.length() && fed < PLAIN.length(); i += n) {
                fed = x.feed(n, text.charAt(i), text.charAt(i + 1), text.charAt(i + 2), text.charAt(i + 3),
                    text.charAt(i + 4));
                Check.due("by " + n, fed, i + n);
            }
            Check.due("by " + n, x.text(), 1);
            x.person(0, 0, 0);
            x.force(1);
            Check.due("by " + n + " in order", x.asks(0, 0, 0) * 100 + x.asks(1, 0, 0) * 10 + x.asks(2, 0, 0), 345);
        }
    }

    private static void badBytes() {
        for (int wrong : new int[] {-1, 256, MIN, MAX}) {
            for (int n = 1; n <= 5; n++) {
                TwoOnOneDay x = new TwoOnOneDay();
                String what = wrong + " in a feed of " + n;
                Check.due(what + ", first", x.feed(n, wrong, 1, 1, 1, 1), BAD);
                Check.due(what + ", second", x.feed(n, 1, wrong, 1, 1, 1), BAD);
                Check.due(what + ", third", x.feed(n, 1, 1, wrong, 1, 1), BAD);
                Check.due(what + ", fourth", x.feed(n, 1, 1, 1, wrong, 1), BAD);
                Check.due(what + ", fifth", x.feed(n, 1, 1, 1, 1, wrong), BAD);
                Check.due(what + ": none came", x.count(4), 0);
            }
        }
    }

    private static void noRoom() {
        for (int n = 1; n <= 5; n++) {
            TwoOnOneDay x = new TwoOnOneDay();
            Check.tape(x, PLAIN);
            Made.blanks(x, 160 - n + 1 - PLAIN.length());
            Check.due("room for one too few of " + n, x.feed(n, '&', '&', '&', '&', '&'), FULL);
            Check.due("none came", x.count(4), 160 - n + 1);
            if (n > 1) {
                Check.due("room for all of " + (n - 1), x.feed(n - 1, 32, 32, 32, 32, 32), 160);
            }
            Check.due("no room at all", x.feed(1, 32, 32, 32, 32, 32), FULL);
            Check.due("no room at all for " + n, x.feed(n, 32, 32, 32, 32, 32), FULL);
            Check.due("none came", x.text(), 1);
        }
    }

    private static void fullTape() {
        TwoOnOneDay x = new TwoOnOneDay();
        Check.tape(x, PLAIN);
        Made.blanks(x, 137);
        Check.due("160", x.count(4), 160);
        Check.due("161", x.feed(1, 32, 0, 0, 0, 0), FULL);
        Check.due("160 are a text", x.text(), 1);
        StringBuilder sum = new StringBuilder("weighs 1;pays 1;asks 0");
        while (sum.length() < 158) {
            sum.append("+1");
        }
        sum.append(" ;");
        Check.due("160 are a text", sum.length(), 160);
        Check.due("160 are a text", Check.text(x, sum.toString()), 2);
        x.person(0, 0, 0);
        x.force(2);
        Check.due("all of them are read", x.asks(2, 0, 0), 40);
        Check.due("room again", x.feed(5, 32, 32, 32, 32, 32), 5);
    }

    private static void emptied() {
        TwoOnOneDay x = new TwoOnOneDay();
        Check.due("a text", Check.text(x, PLAIN), 1);
        Check.due("empty then", x.count(4), 0);
        Check.due("it does not come twice", x.text(), -100);
        Check.due("a fault", Check.text(x, PLAIN + "1"), -100 - PLAIN.length());
        Check.due("empty by a fault", x.count(4), 0);
        Check.due("the next text begins anew", Check.text(x, PLAIN), 2);
        Check.due("no text by faults", x.count(2), 3);
        Check.due("the law stays", x.count(3), 0);
    }

    private static void faultPlaces() {
        Check.due("nothing fed", new TwoOnOneDay().text(), -100);
        TwoOnOneDay first = new TwoOnOneDay();
        first.feed(1, '&', 0, 0, 0, 0);
        Check.due("place 0", first.text(), -100);
        TwoOnOneDay last = new TwoOnOneDay();
        Made.blanks(last, 159);
        last.feed(1, '&', 0, 0, 0, 0);
        Check.due("place 159", last.text(), -259);
        Made.blanks(last, 160);
        Check.due("place 160", last.text(), -260);
        Made.blanks(last, 159);
        Check.due("place 159 again", last.text(), -259);
        Check.due("nothing fed since", last.text(), -100);
    }

    private static void noTextMore() {
        TwoOnOneDay x = Made.fullOfTexts();
        Check.due("an empty tape", x.text(), FULL);
        Check.tape(x, "&");
        Check.due("a fault", x.text(), FULL);
        Check.due("the tape stays", x.count(4), 1);
        Made.blanks(x, 159);
        Check.due("a full tape", x.text(), FULL);
        Check.due("the tape stays", x.count(4), 160);
        Check.due("and is still full", x.feed(1, 32, 0, 0, 0, 0), FULL);
        TwoOnOneDay y = Made.fullOfTexts();
        Check.due("a text", Check.text(y, PLAIN), FULL);
        Check.due("the tape stays", y.count(4), PLAIN.length());
        Check.due("no text came", y.count(2), 6);
        Check.due("no text came", y.force(6), BAD);
    }

    private static void textNumbers() {
        TwoOnOneDay x = new TwoOnOneDay();
        x.person(0, 0, 0);
        for (int t = 1; t < 6; t++) {
            Check.due("a fault takes no number", Check.text(x, "&"), -100);
            Check.due("text " + t, Check.text(x, "weighs " + t + ";pays 2;asks 1;"), t);
            Check.due("texts", x.count(2), t + 1);
        }
        Check.due("a seventh", Check.text(x, PLAIN), FULL);
        for (int t = 0; t < 6; t++) {
            x.force(t);
            Check.due("text " + t + " weighs", x.asks(0, 0, 0), t == 0 ? 1 : t);
        }
    }

    private static void firstText() {
        TwoOnOneDay x = Made.persons(12, 1);
        Check.due("texts", x.count(2), 1);
        Check.due("the law", x.count(3), 0);
        Check.due("weighs", x.asks(0, 0, 11), 1);
        Check.due("pays", x.asks(1, 0, 11), 2);
        Check.due("asks", x.asks(2, 0, 11), 1);
    }

    private static void whichWas() {
        TwoOnOneDay x = Made.fullOfTexts();
        Check.due("the same one", x.force(0), 0);
        Check.due("the last one", x.force(5), 0);
        Check.due("the last one again", x.force(5), 5);
        Check.due("the first one", x.force(0), 5);
        Check.due("the law", x.count(3), 0);
    }

    private static void noText() {
        TwoOnOneDay x = new TwoOnOneDay();
        Check.due("only text 0 is there", x.force(1), BAD);
        for (int t : new int[] {-1, 1, 5, 6, MIN, MAX}) {
            Check.due("force(" + t + ")", x.force(t), BAD);
        }
        Check.text(x, PLAIN);
        Check.due("text 1", x.force(1), 0);
        Check.due("text 2", x.force(2), BAD);
        Check.due("the law stays", x.count(3), 1);
        Check.due("six texts", Made.fullOfTexts().force(6), BAD);
    }

    private static void parts() {
        TwoOnOneDay x = Made.persons(24, 7);
        Check.law(x, "weighs who+1;pays day;asks day+who;");
        Check.due("weighs of the first", x.asks(0, 0, 0), 1);
        Check.due("weighs of the last", x.asks(0, 6, 23), 7);
        Check.due("pays on the first day", x.asks(1, 3, 0), 0);
        Check.due("pays on the last day", x.asks(1, 3, 23), 23);
        Check.due("asks on the last day", x.asks(2, 6, 23), 29);
        TwoOnOneDay y = Made.year(12);
        for (int kind = 0; kind < 6; kind++) {
            y.person(kind, 9, 0);
            Check.due("whatever the kind, " + kind, y.asks(0, kind, 1), 1);
        }
    }

    private static void badAsked() {
        TwoOnOneDay x = Made.persons(12, 2);
        for (int part : new int[] {-1, 3, MIN, MAX}) {
            Check.due("part " + part, x.asks(part, 0, 0), BAD);
        }
        for (int p : new int[] {-1, 2, 6, 7, MIN, MAX}) {
            Check.due("one " + p, x.asks(0, p, 0), BAD);
        }
        for (int d : new int[] {-1, 12, 24, MIN, MAX}) {
            Check.due("day " + d, x.asks(2, 0, d), BAD);
        }
        Check.due("nobody", new TwoOnOneDay().asks(0, 0, 0), BAD);
    }

    private static void bounds() {
        int[] values = {-9999, -1, 0, 1, 8, 9, 10, 39, 40, 41, 9999};
        for (int v : values) {
            TwoOnOneDay x = Made.persons(12, 1);
            Check.law(x, "weighs " + v + ";pays " + v + ";asks " + v + ";");
            Check.due("weighs " + v, x.asks(0, 0, 0), Math.max(0, Math.min(9, v)));
            Check.due("pays " + v, x.asks(1, 0, 0), Math.max(0, Math.min(40, v)));
            Check.due("asks " + v, x.asks(2, 0, 0), Math.max(0, Math.min(40, v)));
            Check.due("weight by " + v, x.weight(0, 11), Math.max(0, Math.min(9, v)));
        }
        TwoOnOneDay y = Made.persons(12, 1);
        Check.law(y, "weighs " + LEAST + ";pays " + LEAST + ";asks " + MOST + ";");
        Check.due("the least", y.asks(0, 0, 0), 0);
        Check.due("the least", y.asks(1, 0, 0), 0);
        Check.due("the most", y.asks(2, 0, 0), 40);
    }

    private static void wrapping() {
        isValue(LEAST + "<0", 1);
        isValue(MOST + "<0", 0);
        isValue(MOST, 40);
        isValue(LEAST, 0);
        isValue(ROUND + "=0", 1);
        isValue(ROUND + "+7", 7);
        isValue(MOST + "+1=" + LEAST, 1);
        isValue(LEAST + "-1=" + MOST, 1);
        isValue("-(" + LEAST + ")=" + LEAST, 1);
        isValue("-(" + LEAST + ")<0", 1);
        isValue("0-" + LEAST + "<0", 1);
        isValue("-" + MOST + "=" + LEAST + "+1", 1);
        isValue(MOST + "*2+2=0", 1);
        isValue(MOST + "*" + MOST, 1);
        // 9999 to the third is 999700029999: less 233 times 4294967296 it is -1027349969
        isValue("9999*9999*9999+1027*1000*1000+349*1000+969=0", 1);
    }

    private static void truth() {
        isValue("1<2", 1);
        isValue("2<2", 0);
        isValue("3<2", 0);
        isValue("2=2", 1);
        isValue("1=2", 0);
        isValue("-1=1", 0);
        // what is less is told of all 32 bits
        isValue(LEAST + "<1", 1);
        isValue(LEAST + "<" + MOST, 1);
        isValue(MOST + "<" + LEAST, 0);
        isValue("1<" + LEAST, 0);
        isValue("not 0", 1);
        isValue("not 1", 0);
        isValue("not 2", 0);
        isValue("not -1", 0);
        isValue("not " + ROUND, 1);
        isValue("not " + LEAST, 0);
        isValue("not not 9", 1);
        isValue("0 or 0", 0);
        isValue("0 or 9", 1);
        isValue("-9 or 0", 1);
        isValue("9 or 9", 1);
        isValue("1 or 2", 1);
        isValue(ROUND + " or 0", 0);
        isValue("2 and 1", 1);
        isValue("4 and 3", 1);
        isValue("-1 and 9", 1);
        isValue("9 and 0", 0);
        isValue("0 and 9", 0);
        isValue(LEAST + " and 1", 1);
        isValue("7 and " + ROUND, 0);
        isValue("0 and 0 or 1", 1);
        isValue("1 or 1 and 0", 1);
        isValue("not 0 and 0", 0);
        isValue("not 1 or 1", 1);
        isValue("not 1=0", 1);
        isValue("(not 1)=1", 0);
        isValue("10-2-3", 5);
        isValue("2+3*4", 14);
        isValue("-2*-3", 6);
        isValue("20--3", 23);
    }

    private static void names() {
        TwoOnOneDay x = Made.year(24);
        for (int p = 0; p < 7; p++) {
            x.person(0, p == 6 ? 9 : 0, p == 6 ? 23 : p);
        }
        x.set(1, 23, 9);
        Check.law(x, "weighs born;pays day;asks who;");
        Check.due("born at most", x.asks(0, 0, 23), 9);
        Check.due("born at least", x.asks(0, 0, 0), 0);
        Check.due("the first day", x.asks(1, 0, 0), 0);
        Check.due("the last day", x.asks(1, 0, 23), 23);
        Check.due("the first one", x.asks(2, 0, 0), 0);
        Check.due("the last one", x.asks(2, 6, 0), 6);
        Check.law(x, "weighs more;pays told;asks year;");
        Check.due("more at most", x.asks(0, 6, 0), 9);
        Check.due("more at least", x.asks(0, 5, 0), 0);
        Check.due("told the first day", x.asks(1, 0, 5), 0);
        Check.due("told the last day", x.asks(1, 6, 5), 23);
        x.move(6, 22);
        Check.due("told another one", x.asks(1, 6, 5), 22);
        Check.due("24 days", x.asks(2, 0, 0), 24);
        TwoOnOneDay one = Made.persons(1, 1);
        Check.law(one, "weighs 1;pays 1;asks year;");
        Check.due("one day", one.asks(2, 0, 0), 1);
    }
}
