/** What the tests share: answers that are due, and TEXTS fed by fives. */
final class Check {
    private static int wrong = 0;
    private static int seen = 0;
    private static String heading = "";

    private static final long LONGEST = 600_000;

    private Check() { }

    /** A call that does not end fails the test too. */
    static void watch() {
        Thread watch = new Thread(() -> {
            try {
                Thread.sleep(LONGEST);
                System.out.println(heading + "did not end");
                Runtime.getRuntime().halt(1);
            } catch (InterruptedException e) {
                System.out.println("nobody watches any more");
            }
        });
        watch.setDaemon(true);
        watch.start();
    }

    /** What stands ahead of all that is wrong from now on. */
    static void heading(String of) {
        heading = of;
    }

    static int answers() {
        return seen;
    }

    static void due(String what, long got, long want) {
        seen++;
        if (got != want) {
            wrong++;
            System.out.println(heading + what + ": answered " + got + ", due is " + want);
        }
    }

    static void isTrue(String what, boolean holds) {
        due(what, holds ? 1 : 0, 1);
    }

    static void same(String what, String got, String want) {
        seen++;
        if (!got.equals(want)) {
            wrong++;
            System.out.println(heading + what + ":\n  seen   " + got + "\n  due is " + want);
        }
    }

    /** Of a FRACTION: above, below; what is wrong about its part is due NO. */
    interface Fraction {
        long part(int part);
    }

    static void fraction(String what, Fraction got, long above, long below) {
        due(what + " above", got.part(0), above);
        due(what + " below", got.part(1), below);
        due(what + " part 2", got.part(2), TwoOnOneDay.NO);
        due(what + " part -1", got.part(-1), TwoOnOneDay.NO);
    }

    static void none(String what, Fraction got) {
        due(what + " above", got.part(0), TwoOnOneDay.NO);
        due(what + " below", got.part(1), TwoOnOneDay.NO);
    }

    /** WEIGHTS of all DAYS for one, and all together. */
    static void weights(String what, TwoOnOneDay x, int p, int... due) {
        int sum = 0;
        for (int d = 0; d < due.length; d++) {
            due(what + " on day " + d, x.weight(p, d), due[d]);
            sum += due[d];
        }
        due(what + " together", x.told(p, 4), sum);
    }

    static void tape(TwoOnOneDay x, String text) {
        for (int i = 0; i < text.length(); i++) {
            x.feed(1, text.charAt(i), 0, 0, 0, 0);
        }
    }

    static int text(TwoOnOneDay x, String text) {
        tape(x, text);
        return x.text();
    }

    /** A TEXT that is THE LAW from then on. */
    static void law(TwoOnOneDay x, String text) {
        x.force(text(x, text));
    }

    static void row(TwoOnOneDay x, int s, int sort, int... numbers) {
        x.sheet(s, sort, numbers.length);
        for (int i = 0; i < numbers.length; i++) {
            x.cell(s, i, numbers[i]);
        }
    }

    static void end() {
        System.out.println(seen + " answers looked at, " + wrong + " wrong");
        if (wrong != 0) {
            System.exit(1);
        }
    }
}
