/** Objects in a state that tests start from. */
final class Made {
    private Made() { }

    static TwoOnOneDay year(int days) {
        TwoOnOneDay x = new TwoOnOneDay();
        x.set(0, 0, days);
        return x;
    }

    /** Some of KIND 0, who are born on any DAY alike. */
    static TwoOnOneDay persons(int days, int number) {
        TwoOnOneDay x = year(days);
        for (int p = 0; p < number; p++) {
            x.person(0, 0, 0);
        }
        return x;
    }

    static TwoOnOneDay one(int days, int kind, int more, int told) {
        TwoOnOneDay x = year(days);
        x.person(kind, more, told);
        return x;
    }

    /** Some of KIND 2, who have their TOLD DAYS alone. */
    static TwoOnOneDay told(int days, int... tolds) {
        TwoOnOneDay x = year(days);
        for (int told : tolds) {
            x.person(2, 0, told);
        }
        return x;
    }

    /** With THE LAW that a DAY weighs what this E says. */
    static TwoOnOneDay weighing(TwoOnOneDay x, String e) {
        Check.law(x, "weighs " + e + ";pays 2;asks 1;");
        return x;
    }

    /** No text more: as many TEXTS as can be. */
    static TwoOnOneDay fullOfTexts() {
        TwoOnOneDay x = new TwoOnOneDay();
        for (int t = 1; t < 6; t++) {
            Check.text(x, "weighs " + t + ";pays 2;asks 1;");
        }
        return x;
    }

    static void blanks(TwoOnOneDay x, int many) {
        for (int i = 0; i < many; i++) {
            x.feed(1, ' ', 0, 0, 0, 0);
        }
    }
}
