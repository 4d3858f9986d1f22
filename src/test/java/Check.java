/** What the tests share: answers that are due, and TEXTS fed by fives. */
final class Check {
    private static int wrong = 0;
    private static int seen = 0;

    private Check() { }

    static void due(String what, long got, long want) {
        seen++;
        if (got != want) {
            wrong++;
            System.out.println(what + ": answered " + got + ", due is " + want);
        }
    }

    static void isTrue(String what, boolean holds) {
        due(what, holds ? 1 : 0, 1);
    }

    /** Of a FRACTION: above, below; what is wrong about its part is due NO. */
    interface Fraction {
        long part(int part);
    }

    static void fraction(String what, Fraction got, long above, long below) {
        due(what + " above", got.part(0), above);
        due(what + " below", got.part(1), below);
        due(what + " part 2", got.part(2), TwoOnOneDay.NO);
        due(what + " part -1", got.part(-1), TwoOnOneDay.NO);
    }

    static void none(String what, Fraction got) {
        due(what + " above", got.part(0), TwoOnOneDay.NO);
        due(what + " below", got.part(1), TwoOnOneDay.NO);
    }

    static void tape(TwoOnOneDay x, String text) {
        for (int i = 0; i < text.length(); i++) {
            x.feed(1, text.charAt(i), 0, 0, 0, 0);
        }
    }

    static int text(TwoOnOneDay x, String text) {
        tape(x, text);
        return x.text();
    }

    /** A TEXT that is THE LAW from then on. */
    static void law(TwoOnOneDay x, String text) {
        x.force(text(x, text));
    }

    static void row(TwoOnOneDay x, int s, int sort, int... numbers) {
        x.sheet(s, sort, numbers.length);
        for (int i = 0; i < numbers.length; i++) {
            x.cell(s, i, numbers[i]);
        }
    }

    static void end() {
        System.out.println(seen + " answers looked at, " + wrong + " wrong");
        if (wrong != 0) {
            System.exit(1);
        }
    }
}
