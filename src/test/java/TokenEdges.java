/** Boundary cases of what a TEXT is read from, and of its FAULTS: promise 6, and the Terms of it. */
final class TokenEdges {
    private static final String START = "weighs ", END = ";pays 2;asks 1;";

    private TokenEdges() { }

    static void all() {
        Sentences.sentence(Sentences.TERMS, "WORDS (as many letters a .. z as stand there)", TokenEdges::words);
        Sentences.sentence(Sentences.TERMS, "NUMBERS (as many digits as stand there; more than 4 are too long)",
            TokenEdges::numbers);
        Sentences.sentence(Sentences.TERMS, "SIGNS ( ) ; + - * < = ;", TokenEdges::signs);
        Sentences.sentence(Sentences.TERMS, "blanks (32, 10) may stand between", TokenEdges::blanks);
        Sentences.sentence(Sentences.TERMS, "TEXT: weighs E ; pays E ; asks E ;", TokenEdges::texts);
        Sentences.sentence(Sentences.TERMS, "NAMES: day born year more told who.", TokenEdges::names);
        Sentences.sentence(Sentences.TERMS, "E: AND { or AND }. AND: NOT { and NOT }.", TokenEdges::orAnd);
        Sentences.sentence(Sentences.TERMS, "NOT: not NOT, or SUM, perhaps < or = and a SUM.", TokenEdges::notAndCompared);
        Sentences.sentence(Sentences.TERMS, "SUM: TERM { + or - TERM }. TERM: ONE { * ONE }.", TokenEdges::sums);
        Sentences.sentence(Sentences.TERMS, "ONE: a NUMBER, a NAME, - ONE, ( E ).", TokenEdges::ones);
        Sentences.sentence(Sentences.TERMS, "the place of the first byte of the first TOKEN that can't stand there",
            TokenEdges::firstFault);
        Sentences.sentence(Sentences.TERMS, "(the text's size, if it ends too early)", TokenEdges::tooEarly);
        Sentences.sentence(Sentences.TERMS, "also of a byte that begins none", TokenEdges::noToken);
        Sentences.sentence(Sentences.TERMS, "of a WORD that is neither KEY nor NAME", TokenEdges::noWord);
        Sentences.sentence(Sentences.TERMS, "a NUMBER that is too long", TokenEdges::tooLong);
        Sentences.sentence(Sentences.TERMS, "a ( , a not, a - ahead of a ONE while 5 of these are open", TokenEdges::fiveOpen);
        Sentences.sentence(Sentences.TERMS, "(a ( till its ) , not and - till what they belong to ends)",
            TokenEdges::noMoreOpen);
    }

    static int placeOf(String text) {
        return -100 - Check.text(new TwoOnOneDay(), text);
    }

    private static void faultAt(int place, String text) {
        Check.due("fault of {" + text + "}", placeOf(text), place);
    }

    private static void fine(String text) {
        Check.due("{" + text + "} is text", Check.text(new TwoOnOneDay(), text), 1);
    }

    /** A FAULT so far behind the start of an E. */
    private static void faultIn(String e, int place) {
        faultAt(START.length() + place, START + e + END);
    }

    private static void fineIn(String e) {
        fine(START + e + END);
    }

    private static void words() {
        fineIn("day or born and not year");
        fineIn("not1or 2and 3");
        fine("weighs1;pays2;asks3;");
        faultAt(0, "weighsday" + END);
        faultIn("dayborn", 0);
        faultIn("notday", 0);
        faultIn("1 ordie", 2);
        faultIn("dayz", 0);
        faultIn("zday", 0);
        faultIn("adayz", 0);
        // what stands beside a and z is no letter
        faultIn("day{", 3);
        faultIn("day`", 3);
        faultIn("{", 0);
        faultIn("`", 0);
        faultIn("Day", 0);
        faultIn("daY", 0);
        faultIn("dayY", 3);
        faultAt(0, "Weighs 1" + END);
    }

    private static void numbers() {
        fineIn("9");
        fineIn("9999");
        fineIn("0000");
        fineIn("1234-5678*9012");
        faultIn("10000", 0);
        faultIn("00000", 0);
        faultIn("00001", 0);
        faultIn("1+123456", 2);
        faultIn("9999999999999999999999999999999999999999", 0);
        faultIn("1234 5", 5);
        faultIn("12a4", 2);
        // what stands beside 0 and 9 is no digit
        faultIn("1/", 1);
        faultIn("1:", 1);
        faultIn("/", 0);
        faultIn(":", 0);
        Check.due("0009", TextEdges.value("0009"), 9);
        Check.due("0010", TextEdges.value("0010"), 10);
    }

    /** Each byte behind "1" and ahead of "1": what it is can be told from where the FAULT is. */
    private static void signs() {
        for (int b = 0; b < 256; b++) {
            String text = START + "1" + (char) b + "1" + END;
            boolean joins = b == '+' || b == '-' || b == '*' || b == '<' || b == '=' || b >= '0' && b <= '9';
            boolean parts = b == ' ' || b == '\n' || b == ';';
            int place = joins ? -101 : parts ? START.length() + 2 : START.length() + 1;
            Check.due("byte " + b + " between", placeOf(text), place);
        }
        for (int b = 0; b < 256; b++) {
            String text = START + (char) b + "1)" + END;
            boolean begins = b == '-' || b == ' ' || b == '\n' || b >= '0' && b <= '9';
            int place = b == '(' ? -101 : begins ? START.length() + 2 : START.length();
            Check.due("byte " + b + " ahead", placeOf(text), place);
        }
        fine("weighs(1);pays(2);asks(3);");
    }

    private static void blanks() {
        fine(" \n weighs\n(\n1 + - 2 )\n*\n3 < 4 ; pays\n\n\n2 ; asks 1\n;\n \n");
        fine("weighs(1+-2)*3<4;pays2;asks1;");
        fine("weighs day;pays born;asks who;");
        faultAt(0, "wei ghs 1" + END);
        faultAt(0, "weigh\ns 1" + END);
        faultIn("1 0", 2);
        faultIn("1\n0", 2);
        faultIn("d ay", 0);
        for (int b : new int[] {0, 9, 11, 12, 13, 31, 33, 127, 128, 160, 255}) {
            faultIn("1" + (char) b, 1);
        }
    }

    private static void texts() {
        fine("weighs 1;pays 2;asks 3;");
        faultAt(0, "pays 1;pays 2;asks 3;");
        faultAt(0, "1;pays 2;asks 3;");
        faultAt(0, ";");
        faultAt(9, "weighs 1;weighs 1;pays 2;asks 3;");
        faultAt(9, "weighs 1;asks 2;pays 3;");
        faultAt(16, "weighs 1;pays 2;pays 2;asks 3;");
        faultAt(16, "weighs 1;pays 2;;asks 3;");
        faultAt(7, "weighs ;pays 2;asks 3;");
        faultAt(14, "weighs 1;pays ;asks 3;");
        faultAt(21, "weighs 1;pays 2;asks ;");
        faultAt(9, "weighs 1 pays 2;asks 3;");
        faultAt(16, "weighs 1;pays 2 asks 3;");
        faultAt(7, "weighs weighs;pays 2;asks 3;");
        faultAt(23, "weighs 1;pays 2;asks 3;;");
        faultAt(24, "weighs 1;pays 2;asks 3; weighs 1;pays 2;asks 3;");
        faultAt(23, "weighs 1;pays 2;asks 3;1");
        faultAt(23, "weighs 1;pays 2;asks 3;\t");
    }

    private static void names() {
        for (String name : new String[] {"day", "born", "year", "more", "told", "who"}) {
            fineIn(name);
            faultIn(name + name, 0);
            faultIn(name.substring(1), 0);
            faultIn(name.substring(0, name.length() - 1), 0);
        }
        for (String key : new String[] {"weighs", "pays", "asks", "or", "and"}) {
            faultIn(key, 0);
        }
        faultIn("day day", 4);
        faultIn("day 1", 4);
        faultAt(0, "day 1" + END);
    }

    private static void orAnd() {
        fineIn("1 or 2 or 3 and 4 and 5 or 6");
        faultIn("or 1", 0);
        faultIn("and 1", 0);
        faultIn("1 or", 4);
        faultIn("1 and", 5);
        faultIn("1 or or 2", 5);
        faultIn("1 or and 2", 5);
        faultIn("1 and or 2", 6);
        faultIn("1 and and 2", 6);
        fineIn("1 or not 2 and not 3");
        fineIn("1 < 2 or 3 = 4 and 5 < 6");
        // what joins less holds no or: it ends there
        fineIn("1 or 2 < 3 or 4");
    }

    private static void notAndCompared() {
        fineIn("not 1");
        fineIn("not not 1 < 2");
        fineIn("1 + 2 < 3 * 4");
        fineIn("1 + 2 = 3 * 4");
        faultIn("not", 3);
        faultIn("1 not", 2);
        faultIn("1 not 2", 2);
        faultIn("1 < not 2", 4);
        faultIn("1 = not 2", 4);
        faultIn("1 + not 2", 4);
        faultIn("1 * not 2", 4);
        faultIn("- not 2", 2);
        faultIn("1 < 2 < 3", 6);
        faultIn("1 < 2 = 3", 6);
        faultIn("1 = 2 = 3", 6);
        faultIn("1 = 2 < 3", 6);
        faultIn("not 1 < 2 < 3", 10);
        fineIn("(1 < 2) < 3");
        fineIn("1 < (not 2)");
        faultIn("< 1", 0);
        faultIn("= 1", 0);
        faultIn("1 <", 3);
        faultIn("1 =", 3);
        faultIn("1 << 2", 3);
        faultIn("1 <= 2", 3);
        faultIn("1 == 2", 3);
    }

    private static void sums() {
        fineIn("1 + 2 - 3 + 4 * 5 * 6 - 7");
        faultIn("+ 1", 0);
        faultIn("* 1", 0);
        faultIn("1 +", 3);
        faultIn("1 -", 3);
        faultIn("1 *", 3);
        faultIn("1 + + 2", 4);
        faultIn("1 + * 2", 4);
        faultIn("1 * + 2", 4);
        faultIn("1 * * 2", 4);
        fineIn("1 - - 2");
        fineIn("1 + - 2");
        fineIn("1 * - 2");
    }

    private static void ones() {
        fineIn("1");
        fineIn("day");
        fineIn("-1");
        fineIn("--day");
        fineIn("-(-(1))");
        fineIn("(1 or 2 and not 3 < 4)");
        faultIn("", 0);
        faultIn("-", 1);
        faultIn("()", 1);
        faultIn("(1", 2);
        faultIn("(1))", 3);
        faultIn(")", 0);
        faultIn("1)", 1);
        faultIn("(1;)", 2);
        faultIn("1(2)", 1);
        faultIn("(1)(2)", 3);
        faultIn("(1)2", 3);
        faultIn("- )", 2);
    }

    private static void firstFault() {
        faultIn("1 2 & 12345 foo", 2);
        faultIn("& 1 2", 0);
        faultIn("(1 + 2 3) & ", 7);
        faultIn("day  \n  born", 8);
        faultAt(3, "   1");
        faultAt(7, "weighs or");
        faultAt(159, " ".repeat(159) + "1");
        faultAt(154, " ".repeat(154) + "weight");
    }

    /** A TEXT, cut behind each of its TOKENS, and behind the blanks that follow. */
    private static void tooEarly() {
        String text = "weighs not ( 1 + - day ) * 2 < 3 and who or born ; pays 40 = more ; asks told - year ;";
        for (int i = 0; i < text.length(); i++) {
            boolean endsToken = text.charAt(i) == ' ' || text.charAt(i + 1 < text.length() ? i + 1 : i) == ' ';
            if (endsToken) {
                faultAt(i + 1, text.substring(0, i + 1));
            }
        }
        fine(text);
        faultAt(0, "");
        faultAt(1, "\n");
        faultAt(160, " ".repeat(160));
        faultAt(160, " ".repeat(154) + "weighs");
        faultAt(160, "weighs 1" + " ".repeat(152));
        faultAt(160, " ".repeat(138) + "weighs 1;pays 2;asks 3");
        fine(" ".repeat(136) + "weighs 1;pays 2;asks 3;" + " ");
    }

    private static void noToken() {
        for (int b : new int[] {0, 1, 9, 13, 31, 33, 39, 44, 46, 47, 58, 62, 64, 91, 94, 96, 123, 126, 127, 128, 255}) {
            faultAt(0, (char) b + "weighs 1" + END);
            faultAt(6, "weighs" + (char) b + "1" + END);
            faultIn("1" + (char) b, 1);
            faultIn("1+" + (char) b, 2);
            faultAt(23, "weighs 1;pays 2;asks 3;" + (char) b);
        }
    }

    private static void noWord() {
        for (String word : new String[] {"a", "z", "w", "weigh", "weighss", "pay", "payss", "ask", "askss", "o", "orr", "an",
            "andd", "no", "nott", "da", "dayy", "bornn", "yearr", "moree", "toldd", "whoo", "weighsweighs", "xday"}) {
            faultIn(word, 0);
            faultAt(0, word + " 1" + END);
            faultIn("1+" + word, 2);
            faultIn("1 " + word + " 2", 2);
            faultIn("(" + word + " 1)", 1);
            faultIn("-" + word + " 1", 1);
            faultIn("not " + word + " 1", 4);
            faultIn("1 or " + word + " 1", 5);
            faultAt(9, "weighs 1;" + word + " 2;asks 1;");
        }
        faultIn("w".repeat(120), 0);
    }

    private static void tooLong() {
        fineIn("1234");
        faultIn("12345", 0);
        faultIn("1 + 12345", 4);
        faultIn("(12345)", 1);
        faultIn("1 12345", 2);
        faultIn("1".repeat(130), 0);
        faultIn("0".repeat(130), 0);
        fine("weighs 9999;pays 9999;asks 9999;");
        faultAt(15, "weighs 99;pays 10000;asks 1;");
    }

    private static void fiveOpen() {
        fineIn("(((((1)))))");
        faultIn("((((((1))))))", 5);
        fineIn("-----1");
        faultIn("------1", 5);
        fineIn("not not not not not 1");
        faultIn("not not not not not not 1", 20);
        fineIn("not(-(-1))");
        fineIn("not(-(-day))");
        faultIn("not(-(-(1)))", 7);
        faultIn("not(-(--1))", 7);
        faultIn("(not(not(not 1)))", 9);
        fineIn("(not(not(1)))");
        // a - between two is none of these
        fineIn("(((((1-1-1)))))");
        fineIn("-----1-1");
        faultIn("(((((1--1)))))", 7);
        faultIn("(((((1+-1)))))", 7);
        faultIn("(((((1*-1)))))", 7);
        faultIn("(((((1<-1)))))", 7);
        faultIn("(((((not 1)))))", 5);
        faultIn("(((((-1)))))", 5);
        // also where what it would belong to is wrong
        faultIn("(((((- )))))", 5);
        faultIn("(((((( )))))", 5);
        faultIn("(((((", 5);
        faultIn("((((-not 1))))", 5);
    }

    private static void noMoreOpen() {
        fineIn("(((((1)))))+(((((2)))))");
        faultIn("(((((1)))))+((((((2))))))", 17);
        fineIn("((((1))))*(((((1)))))");
        fineIn("-----1 - -----1 * -----1");
        fineIn("-----1*(((((1)))))");
        fineIn("-----1<-----1");
        fineIn("not not not not not 1 and not not not not not 1 or not not not not not 1");
        fineIn("not not not not not 1 and (((((1)))))");
        // a not is open till what is compared ends
        faultIn("not not not not not 1 + (1)", 24);
        faultIn("not not not not not 1 < (1)", 24);
        faultIn("not not not not not 1 = -1", 24);
        fineIn("not not not not not 1 < 1 or -1 < (1)");
        fineIn("not not not not 1 < (1)");
        fineIn("(not not not not 1 < 1 and not not not not 1) and not not not not not 1");
        faultIn("(not not not not 1 < 1 and not not not not not 1)", 43);
        fineIn("((((-1)))) + ((((-1))))");
        fineIn("(-(-1)) + (-(-1)) + -----1");
        fine("weighs (((((1)))));pays (((((1)))));asks -----1;");
        faultAt(12, "weighs ((((((1;pays 2;asks 1;");
    }
}
