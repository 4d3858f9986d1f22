/** Boundary cases of the host's calls: promises 40 to 44, and the Terms of these. */
final class SheetEdges {
    private static final int BAD = -2, MISSING = -11, OUTSIDE = -12, UNLIKE = -13, BELOW_NOTHING = -14;
    private static final int PERSON = 0, NEARLY = 4;
    private static final int BYTES = 0, SHORTS = 1, INTS = 2;
    private static final int MIN = Integer.MIN_VALUE, MAX = Integer.MAX_VALUE;

    private SheetEdges() { }

    static void all() {
        Sentences.sentence(Sentences.TERMS, "SHEETS 0 .. 3 are rows of numbers, or missing (as all are at first)",
            SheetEdges::atFirst);
        Sentences.sentence(Sentences.TERMS, "of sort 0 bytes, 1 shorts, 2 ints, 40 at most.", SheetEdges::sorts);
        Sentences.sentence(40, "A SHEET becomes a row of n of a sort, all 0", SheetEdges::allZero);
        Sentences.sentence(40, "or missing (sort -1: n does not matter): 1.", SheetEdges::missing);
        Sentences.sentence(40, "BAD: SHEET, sort, n above 40; -14.", SheetEdges::noSheet);
        Sentences.sentence(41, "(of bytes, shorts its lowest 8, 16 bits): 1.", SheetEdges::lowestBits);
        Sentences.sentence(41, "Number i of a SHEET becomes v", SheetEdges::oneNumber);
        Sentences.sentence(41, "BAD: SHEET; -11; -12.", SheetEdges::noCell);
        Sentences.sentence(42, "n numbers of a SHEET, from i on, come to another one's", SheetEdges::copies);
        Sentences.sentence(42, "(or its own) place j (as they were): n.", SheetEdges::ownCopies);
        Sentences.sentence(42, "BAD: SHEETS; -11; -13: unlike sorts;", SheetEdges::noCopy);
        Sentences.sentence(42, "-12 (n below 0, too).", SheetEdges::copyOutside);
        Sentences.sentence(43, "from a place on, three by three (as of person()), n of them (0 .. 7)", SheetEdges::threeByThree);
        Sentences.sentence(43, "how many came (others are left out).", SheetEdges::leftOut);
        Sentences.sentence(43, "BAD: SHEET, sort, n; -11; -13;", SheetEdges::nobodyCame);
        Sentences.sentence(43, "-12: what stood ahead came.", SheetEdges::whatStoodAhead);
        Sentences.sentence(44, "0 .. 23 DAYS on which any are BORN", SheetEdges::takenDays);
        Sentences.sentence(44, "24 .. 30 PEOPLE, taken for 0 .. 5 one of that KIND (also of one that is one): its number;",
            SheetEdges::takenPeople);
        Sentences.sentence(44, "6 a DAY: how many are BORN.", SheetEdges::takenForDays);
        Sentences.sentence(44, "BAD: kind; -12: i;", SheetEdges::badTaken);
        Sentences.sentence(44, "-11: nothing lies there (no such DAY, too);", SheetEdges::nothingThere);
        Sentences.sentence(44, "-13.", SheetEdges::unlikeTaken);
    }

    /** What number i of a SHEET is, where one person is and the number is a DAY of 24; BAD, if it is none. */
    private static int number(TwoOnOneDay x, int s, int i, int sort) {
        x.sheet(3, sort, 1);
        x.copy(s, i, 3, 0, 1);
        int bits = x.list(3, 2);
        return bits < 0 ? bits : Integer.numberOfTrailingZeros(bits);
    }

    private static void atFirst() {
        for (int s = 0; s < 4; s++) {
            TwoOnOneDay x = new TwoOnOneDay();
            Check.due("cell of " + s, x.cell(s, 0, 0), MISSING);
            Check.due("judge of " + s, x.judge(s), MISSING);
            Check.due("copy of " + s, x.copy(s, 0, s, 0, 0), MISSING);
            Check.due("peopleBy " + s, x.peopleBy(s, 0, 0, 0), MISSING);
            Check.due("a row", x.sheet(s, INTS, 1), 1);
            Check.due("is there", x.cell(s, 0, 0), 1);
            for (int other = 0; other < 4; other++) {
                Check.due("the others are missing", x.cell(other, 0, 0), other == s ? 1 : MISSING);
            }
        }
        for (int s : new int[] {-1, 4, MIN, MAX}) {
            Check.due("sheet " + s, new TwoOnOneDay().cell(s, 0, 0), BAD);
        }
    }

    private static void sorts() {
        for (int sort = BYTES; sort <= INTS; sort++) {
            TwoOnOneDay x = new TwoOnOneDay();
            Check.due("of size 0", x.sheet(0, sort, 0), 1);
            Check.due("nothing in it", x.cell(0, 0, 0), OUTSIDE);
            Check.due("of size 1", x.sheet(0, sort, 1), 1);
            Check.due("one in it", x.cell(0, 0, 0), 1);
            Check.due("no more in it", x.cell(0, 1, 0), OUTSIDE);
            Check.due("of size 40", x.sheet(0, sort, 40), 1);
            Check.due("the last of 40", x.cell(0, 39, 0), 1);
            Check.due("no more than 40", x.cell(0, 40, 0), OUTSIDE);
            Check.due("of size 41", x.sheet(0, sort, 41), BAD);
        }
    }

    private static void allZero() {
        TwoOnOneDay x = Made.persons(24, 1);
        for (int sort = BYTES; sort <= INTS; sort++) {
            x.sheet(0, sort, 40);
            for (int i = 0; i < 40; i++) {
                x.cell(0, i, 7);
            }
            Check.due("once more", x.sheet(0, sort, 40), 1);
            for (int i = 0; i < 40; i += 13) {
                Check.due("number " + i + " of sort " + sort, number(x, 0, i, sort), 0);
            }
            x.cell(0, 5, 7);
            x.sheet(0, sort, 3);
            x.sheet(0, sort, 40);
            Check.due("what was once there", number(x, 0, 5, sort), 0);
            x.cell(0, 5, 7);
            x.sheet(0, -1, 40);
            x.sheet(0, sort, 40);
            Check.due("what was there before it was missing", number(x, 0, 5, sort), 0);
        }
    }

    private static void missing() {
        TwoOnOneDay x = new TwoOnOneDay();
        for (int n : new int[] {0, 1, 40, 41, -1, MIN, MAX}) {
            x.sheet(2, INTS, 5);
            Check.due("n " + n, x.sheet(2, -1, n), 1);
            Check.due("missing", x.cell(2, 0, 0), MISSING);
            Check.due("it was missing already", x.sheet(2, -1, n), 1);
        }
        for (int s : new int[] {-1, 4}) {
            Check.due("sheet " + s, x.sheet(s, -1, 0), BAD);
        }
    }

    private static void noSheet() {
        for (int s : new int[] {-1, 4, MIN, MAX}) {
            Check.due("sheet " + s, new TwoOnOneDay().sheet(s, 0, 0), BAD);
            Check.due("BAD ahead of -14, sheet " + s, new TwoOnOneDay().sheet(s, 0, -1), BAD);
        }
        for (int sort : new int[] {-2, 3, MIN, MAX}) {
            Check.due("sort " + sort, new TwoOnOneDay().sheet(0, sort, 0), BAD);
            Check.due("BAD ahead of -14, sort " + sort, new TwoOnOneDay().sheet(0, sort, -1), BAD);
        }
        for (int n : new int[] {41, 42, MAX}) {
            Check.due("n " + n, new TwoOnOneDay().sheet(0, 2, n), BAD);
        }
        for (int n : new int[] {-1, -2, MIN}) {
            Check.due("n " + n, new TwoOnOneDay().sheet(0, 2, n), BELOW_NOTHING);
        }
    }

    private static void lowestBits() {
        TwoOnOneDay x = Made.persons(24, 1);
        x.sheet(0, BYTES, 40);
        x.sheet(1, SHORTS, 40);
        x.sheet(2, INTS, 40);
        int[] v = {23, 256 + 23, -256 + 23, 128, 255, 65536 + 23, 65536 + 256 + 23, MIN, MIN + 23, MAX, 32768, 65535};
        int[] ofByte = {23, 23, 23, BAD, BAD, 23, 23, 0, 23, BAD, 0, BAD};
        int[] ofShort = {23, BAD, BAD, BAD, BAD, 23, BAD, 0, 23, BAD, BAD, BAD};
        int[] ofInt = {23, BAD, BAD, BAD, BAD, BAD, BAD, BAD, BAD, BAD, BAD, BAD};
        for (int i = 0; i < v.length; i++) {
            Check.due("a byte of " + v[i], x.cell(0, i, v[i]), 1);
            Check.due("a short of " + v[i], x.cell(1, i, v[i]), 1);
            Check.due("an int of " + v[i], x.cell(2, i, v[i]), 1);
            Check.due("the byte of " + v[i], number(x, 0, i, BYTES), ofByte[i]);
            Check.due("the short of " + v[i], number(x, 1, i, SHORTS), ofShort[i]);
            Check.due("the int of " + v[i], number(x, 2, i, INTS), ofInt[i]);
        }
    }

    private static void oneNumber() {
        TwoOnOneDay x = Made.persons(24, 1);
        x.sheet(0, INTS, 40);
        x.cell(0, 0, 5);
        x.cell(0, 39, 6);
        Check.due("the first", number(x, 0, 0, INTS), 5);
        Check.due("the second", number(x, 0, 1, INTS), 0);
        Check.due("the last but one", number(x, 0, 38, INTS), 0);
        Check.due("the last", number(x, 0, 39, INTS), 6);
        x.cell(0, 39, 0);
        Check.due("it is 0 again", number(x, 0, 39, INTS), 0);
    }

    private static void noCell() {
        TwoOnOneDay x = new TwoOnOneDay();
        x.sheet(0, INTS, 40);
        x.sheet(1, INTS, 0);
        for (int s : new int[] {-1, 4, MIN, MAX}) {
            Check.due("BAD ahead of all, sheet " + s, x.cell(s, 99, 0), BAD);
        }
        for (int i : new int[] {-1, 40, 41, MIN, MAX}) {
            Check.due("place " + i, x.cell(0, i, 0), OUTSIDE);
            Check.due("-11 ahead of -12, place " + i, x.cell(2, i, 0), MISSING);
        }
        Check.due("a sheet of size 0", x.cell(1, 0, 0), OUTSIDE);
    }

    private static TwoOnOneDay twoRows() {
        TwoOnOneDay x = Made.persons(24, 1);
        x.sheet(0, INTS, 5);
        x.sheet(1, INTS, 6);
        for (int i = 0; i < 6; i++) {
            x.cell(0, i, 1 + i);
            x.cell(1, i, 11 + i);
        }
        return x;
    }

    private static void rowIs(String what, TwoOnOneDay x, int s, int... due) {
        for (int i = 0; i < due.length; i++) {
            Check.due(what + ", number " + i, number(x, s, i, INTS), due[i]);
        }
    }

    private static void copies() {
        TwoOnOneDay x = twoRows();
        Check.due("all five", x.copy(0, 0, 1, 1, 5), 5);
        rowIs("all five came", x, 1, 11, 1, 2, 3, 4, 5);
        rowIs("they stay where they were", x, 0, 1, 2, 3, 4, 5);
        TwoOnOneDay y = twoRows();
        Check.due("the last of one, to the first", y.copy(1, 5, 0, 0, 1), 1);
        rowIs("the last came", y, 0, 16, 2, 3, 4, 5);
        Check.due("none at the end", y.copy(1, 6, 0, 5, 0), 0);
        Check.due("none at the start", y.copy(1, 0, 0, 0, 0), 0);
        rowIs("none came", y, 0, 16, 2, 3, 4, 5);
        TwoOnOneDay z = Made.persons(24, 1);
        z.sheet(0, INTS, 40);
        z.sheet(1, INTS, 40);
        z.cell(0, 39, 9);
        Check.due("all forty", z.copy(0, 0, 1, 0, 40), 40);
        Check.due("the last of forty", number(z, 1, 39, INTS), 9);
        z.sheet(2, BYTES, 0);
        z.sheet(3, BYTES, 0);
        Check.due("none of size 0", z.copy(2, 0, 3, 0, 0), 0);
        Check.due("one of size 0", z.copy(2, 0, 3, 0, 1), OUTSIDE);
    }

    private static void ownCopies() {
        TwoOnOneDay x = twoRows();
        Check.due("upwards", x.copy(0, 0, 0, 1, 4), 4);
        rowIs("upwards, as they were", x, 0, 1, 1, 2, 3, 4);
        TwoOnOneDay y = twoRows();
        Check.due("downwards", y.copy(0, 1, 0, 0, 4), 4);
        rowIs("downwards, as they were", y, 0, 2, 3, 4, 5, 5);
        TwoOnOneDay z = twoRows();
        Check.due("all, to the same place", z.copy(0, 0, 0, 0, 5), 5);
        rowIs("the same", z, 0, 1, 2, 3, 4, 5);
    }

    private static void noCopy() {
        TwoOnOneDay x = twoRows();
        x.sheet(2, BYTES, 5);
        for (int s : new int[] {-1, 4, MIN, MAX}) {
            Check.due("from " + s, x.copy(s, 0, 0, 0, 1), BAD);
            Check.due("to " + s, x.copy(0, 0, s, 0, 1), BAD);
            Check.due("BAD ahead of -11, from " + s, x.copy(s, 0, 3, 0, 1), BAD);
            Check.due("BAD ahead of -11, to " + s, x.copy(3, 0, s, 0, 1), BAD);
        }
        Check.due("from what is missing", x.copy(3, 0, 0, 0, 1), MISSING);
        Check.due("to what is missing", x.copy(0, 0, 3, 0, 1), MISSING);
        Check.due("-11 ahead of -12", x.copy(3, -1, 0, 99, -1), MISSING);
        for (int from = BYTES; from <= INTS; from++) {
            for (int to = BYTES; to <= INTS; to++) {
                TwoOnOneDay y = new TwoOnOneDay();
                y.sheet(0, from, 2);
                y.sheet(1, to, 2);
                Check.due("from " + from + " to " + to, y.copy(0, 0, 1, 0, 2), from == to ? 2 : UNLIKE);
                Check.due("-13 ahead of -12", y.copy(0, -1, 1, 5, -3), from == to ? OUTSIDE : UNLIKE);
                Check.due("none, from " + from + " to " + to, y.copy(0, 0, 1, 0, 0), from == to ? 0 : UNLIKE);
            }
        }
    }

    private static void copyOutside() {
        TwoOnOneDay x = twoRows();
        int[][] outside = {
            {-1, 0, 1}, {0, -1, 1}, {0, 0, -1}, {0, 0, 6}, {1, 0, 5}, {0, 2, 5}, {5, 0, 1}, {0, 6, 1}, {6, 0, 0}, {0, 7, 0},
            {-1, 0, 0}, {0, -1, 0}, {MAX, 0, 1}, {0, MAX, 1}, {0, 0, MAX}, {0, 0, MIN}, {MIN, 0, 1}, {0, MIN, 1},
            {1, 1, MAX}, {MAX, MAX, MAX}, {MAX, 0, MAX}, {MIN, MIN, MIN}, {5, 5, MIN}, {MAX, MAX, 2}, {3, 3, -1},
        };
        for (int[] o : outside) {
            String what = "from " + o[0] + " to " + o[1] + ", " + o[2];
            Check.due(what, x.copy(0, o[0], 1, o[1], o[2]), OUTSIDE);
        }
        rowIs("nothing came", x, 1, 11, 12, 13, 14, 15, 16);
        Check.due("the last that is not outside", x.copy(0, 4, 1, 5, 1), 1);
        Check.due("of none the last that is not outside", x.copy(0, 5, 1, 6, 0), 0);
    }

    private static String who(TwoOnOneDay x, int p) {
        return x.told(p, 0) + " " + x.told(p, 1) + " " + x.told(p, 2);
    }

    private static void threeByThree() {
        for (int sort = BYTES; sort <= INTS; sort++) {
            TwoOnOneDay x = Made.year(24);
            x.sheet(1, sort, 40);
            for (int p = 0; p < 7; p++) {
                x.cell(1, 19 + 3 * p, p % 6);
                x.cell(1, 20 + 3 * p, p + 3);
                x.cell(1, 21 + 3 * p, 23 - p);
            }
            Check.due("none", x.peopleBy(1, sort, 19, 0), 0);
            Check.due("nobody came", x.count(0), 0);
            Check.due("seven, to the end of the sheet", x.peopleBy(1, sort, 19, 7), 7);
            for (int p = 0; p < 7; p++) {
                Check.same("who came, sort " + sort, who(x, p), p % 6 + " " + (p + 3) + " " + (23 - p));
            }
        }
        TwoOnOneDay x = new TwoOnOneDay();
        Check.row(x, 0, INTS, 1, 2, 3);
        Check.due("one, of a sheet of three", x.peopleBy(0, INTS, 0, 1), 1);
        Check.same("who came", who(x, 0), "1 2 3");
        x.sheet(0, INTS, 0);
        Check.due("none of a sheet of size 0", x.peopleBy(0, INTS, 0, 0), 0);
        Check.due("one of a sheet of size 0", x.peopleBy(0, INTS, 0, 1), OUTSIDE);
    }

    private static void leftOut() {
        TwoOnOneDay x = new TwoOnOneDay();
        Check.row(x, 0, INTS, 6, 0, 0, 0, 10, 0, 0, 0, 12, -1, 0, 0, 5, 9, 11, 0, -1, 0, 0, 0, -1);
        Check.due("one of seven, the others are no one", x.peopleBy(0, INTS, 0, 7), 1);
        Check.same("the fifth one", who(x, 0), "5 9 11");
        Check.due("PEOPLE", x.count(0), 1);
        TwoOnOneDay y = Made.persons(12, 5);
        Check.row(y, 0, BYTES, 1, 1, 1, 6, 6, 6, 2, 2, 2, 3, 3, 3);
        Check.due("two, then it is full", y.peopleBy(0, BYTES, 0, 4), 2);
        Check.same("the first", who(y, 5), "1 1 1");
        Check.same("the third", who(y, 6), "2 2 2");
        Check.due("no more", y.peopleBy(0, BYTES, 0, 4), 0);
        Check.due("PEOPLE", y.count(0), 7);
        TwoOnOneDay z = Made.year(1);
        Check.row(z, 0, SHORTS, 0, 0, 1, 0, 0, 0);
        Check.due("no such day", z.peopleBy(0, SHORTS, 0, 2), 1);
    }

    private static void nobodyCame() {
        TwoOnOneDay x = new TwoOnOneDay();
        x.sheet(0, INTS, 40);
        for (int s : new int[] {-1, 4, MIN, MAX}) {
            Check.due("sheet " + s, x.peopleBy(s, INTS, 0, 1), BAD);
        }
        for (int sort : new int[] {-1, 3, MIN, MAX}) {
            Check.due("sort " + sort, x.peopleBy(0, sort, 0, 1), BAD);
            Check.due("BAD ahead of -11, sort " + sort, x.peopleBy(1, sort, 0, 1), BAD);
        }
        for (int n : new int[] {-1, 8, MIN, MAX}) {
            Check.due("n " + n, x.peopleBy(0, INTS, 0, n), BAD);
            Check.due("BAD ahead of -11, n " + n, x.peopleBy(1, INTS, 0, n), BAD);
            Check.due("BAD ahead of -13, n " + n, x.peopleBy(0, BYTES, 0, n), BAD);
        }
        Check.due("missing", x.peopleBy(1, INTS, 99, 1), MISSING);
        Check.due("bytes", x.peopleBy(0, BYTES, 99, 1), UNLIKE);
        Check.due("shorts", x.peopleBy(0, SHORTS, 99, 1), UNLIKE);
        Check.due("ints", x.peopleBy(0, INTS, 99, 1), OUTSIDE);
        Check.due("nobody came", x.count(0), 0);
    }

    private static void whatStoodAhead() {
        TwoOnOneDay x = new TwoOnOneDay();
        Check.row(x, 0, INTS, 1, 1, 1, 9, 9, 9, 2, 2, 2, 3, 3);
        Check.due("two and a part", x.peopleBy(0, INTS, 0, 4), OUTSIDE);
        Check.due("two came", x.count(0), 2);
        Check.same("the first", who(x, 0), "1 1 1");
        Check.same("the third", who(x, 1), "2 2 2");
        Check.due("behind two, one and a part", x.peopleBy(0, INTS, 6, 7), OUTSIDE);
        Check.due("one came", x.count(0), 3);
        Check.due("just what is there", x.peopleBy(0, INTS, 8, 1), 1);
        Check.same("who came", who(x, 3), "2 3 3");
        for (int at : new int[] {-1, -2, -3, 9, 10, 11, 12, 40, MIN, MIN + 1, MAX, MAX - 1, MAX - 2, MAX - 5}) {
            Check.due("from " + at, x.peopleBy(0, INTS, at, 1), OUTSIDE);
            Check.due("seven from " + at, x.peopleBy(0, INTS, at, 7), OUTSIDE);
        }
        Check.due("nobody came", x.count(0), 4);
        TwoOnOneDay full = Made.persons(12, 7);
        Check.row(full, 0, INTS, 1, 1, 1);
        Check.due("outside, though it is full", full.peopleBy(0, INTS, 0, 2), OUTSIDE);
    }

    private static void takenDays() {
        TwoOnOneDay x = Made.year(24);
        for (int d = 0; d < 24; d++) {
            Check.due("none on " + d, x.taken(d, 6), MISSING);
            x.set(1, d, 1 + d % 9);
            Check.due("born on " + d, x.taken(d, 6), 1 + d % 9);
        }
        x.set(1, 23, 0);
        Check.due("none any more", x.taken(23, 6), MISSING);
    }

    private static void takenPeople() {
        String[] isA = {"100000", "110000", "101000", "110100", "101010", "100001"};
        for (int of = 0; of < 6; of++) {
            TwoOnOneDay x = Made.year(12);
            for (int p = 0; p < 7; p++) {
                Check.due("nobody yet", x.taken(24 + p, of), MISSING);
                x.person(of, 0, 0);
                for (int kind = 0; kind < 6; kind++) {
                    int due = isA[of].charAt(kind) == '1' ? p : UNLIKE;
                    Check.due("one of " + of + " taken for " + kind, x.taken(24 + p, kind), due);
                }
            }
        }
    }

    private static void takenForDays() {
        TwoOnOneDay x = Made.year(24);
        x.set(1, 0, 1);
        x.set(1, 23, 9);
        Check.due("the first", x.taken(0, 6), 1);
        Check.due("the last", x.taken(23, 6), 9);
        Check.due("no day lies behind it", x.taken(24, 6), MISSING);
        x.person(PERSON, 0, 0);
        Check.due("a person is no day", x.taken(24, 6), UNLIKE);
    }

    private static void badTaken() {
        TwoOnOneDay x = Made.persons(24, 7);
        x.set(1, 0, 1);
        for (int kind : new int[] {-1, 7, MIN, MAX}) {
            Check.due("kind " + kind, x.taken(24, kind), BAD);
            Check.due("kind " + kind, x.taken(0, kind), BAD);
            Check.due("BAD ahead of -12, kind " + kind, x.taken(31, kind), BAD);
            Check.due("BAD ahead of -11, kind " + kind, x.taken(1, kind), BAD);
        }
        for (int i : new int[] {-1, 31, 32, MIN, MAX}) {
            Check.due("place " + i, x.taken(i, 0), OUTSIDE);
            Check.due("place " + i + " for a day", x.taken(i, 6), OUTSIDE);
        }
        Check.due("the last place", x.taken(30, 0), 6);
        Check.due("the first place", x.taken(0, 6), 1);
    }

    private static void nothingThere() {
        TwoOnOneDay x = Made.persons(24, 6);
        x.set(1, 23, 5);
        x.set(1, 12, 5);
        for (int kind = 0; kind < 7; kind++) {
            Check.due("no seventh for " + kind, x.taken(30, kind), MISSING);
            Check.due("none are born for " + kind, x.taken(22, kind), MISSING);
        }
        x.set(0, 0, 12);
        for (int kind = 0; kind < 7; kind++) {
            Check.due("no such day for " + kind, x.taken(23, kind), MISSING);
            Check.due("the day behind the last for " + kind, x.taken(12, kind), MISSING);
        }
        x.set(0, 0, 13);
        Check.due("it is there again", x.taken(12, 6), 5);
        Check.due("another is not", x.taken(23, 6), MISSING);
    }

    private static void unlikeTaken() {
        TwoOnOneDay x = Made.one(24, NEARLY, 0, 0);
        x.set(1, 5, 2);
        for (int kind = 0; kind < 6; kind++) {
            Check.due("a day taken for " + kind, x.taken(5, kind), UNLIKE);
        }
        Check.due("a nearly for a day", x.taken(24, 6), UNLIKE);
        Check.due("a nearly for a late one", x.taken(24, 3), UNLIKE);
        Check.due("a nearly for a shy one", x.taken(24, 5), UNLIKE);
    }
}
