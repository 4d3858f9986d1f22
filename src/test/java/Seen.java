/** All that can be seen of an object, as a text. Looking changes it: afterwards it is of no more use. */
final class Seen {
    private static final int PROBE = 3;

    private Seen() { }

    /** SHEET 3 must be missing: it is written to. */
    static String all(TwoOnOneDay x) {
        StringBuilder seen = new StringBuilder();
        year(x, seen);
        people(x, seen);
        sheets(x, seen);
        tape(x, seen);
        seen.append("\n  image: ").append(x.back());
        year(x, seen);
        people(x, seen);
        seen.append("\n  lost days: ").append(x.set(0, 0, 24));
        year(x, seen);
        return seen.toString();
    }

    private static void year(TwoOnOneDay x, StringBuilder seen) {
        seen.append("\n  counts:");
        for (int what = 0; what < 5; what++) {
            seen.append(' ').append(x.count(what));
        }
        seen.append(", born:");
        for (int d = 0; d < x.count(1); d++) {
            seen.append(' ').append(x.bornOn(d));
        }
    }

    private static void people(TwoOnOneDay x, StringBuilder seen) {
        for (int p = 0; p < x.count(0); p++) {
            seen.append("\n  one:");
            for (int what = 0; what < 5; what++) {
                seen.append(' ').append(x.told(p, what));
            }
            for (int part = 0; part < 3; part++) {
                seen.append(", ").append(x.asks(part, p, 0));
            }
            seen.append(", ").append(x.weight(p, 0)).append(' ').append(x.weight(p, x.count(1) - 1));
        }
        seen.append("\n  meet: ").append(x.meets(2, 0)).append('/').append(x.meets(2, 1));
    }

    private static void sheets(TwoOnOneDay x, StringBuilder seen) {
        seen.append("\n  sheet 3: ").append(x.cell(PROBE, 0, 0));
        for (int s = 0; s < PROBE; s++) {
            seen.append("\n  sheet ").append(s).append(':');
            int sort = sortOf(x, s);
            seen.append(" sort ").append(sort);
            for (int i = 0; sort >= 0 && x.copy(s, i, s, i, 1) == 1; i++) {
                seen.append(' ').append(number(x, s, i, sort));
            }
        }
        x.sheet(PROBE, -1, 0);
    }

    private static int sortOf(TwoOnOneDay x, int s) {
        for (int sort = 0; sort < 3; sort++) {
            x.sheet(PROBE, sort, 0);
            if (x.copy(s, 0, PROBE, 0, 0) == 0) {
                return sort;
            }
        }
        return -1;
    }

    /** The DAYS of a list of one such number and of 0 else. */
    private static int number(TwoOnOneDay x, int s, int i, int sort) {
        x.sheet(PROBE, sort, x.count(0));
        x.copy(s, i, PROBE, 0, 1);
        return x.list(PROBE, 2);
    }

    /** What stands on THE TAPE is told by the TEXT that comes of it, when its end is fed too. */
    private static void tape(TwoOnOneDay x, StringBuilder seen) {
        seen.append("\n  tape: ").append(x.feed(2, '3', ';', 0, 0, 0));
        int t = x.text();
        seen.append(", text ").append(t).append(", law ").append(x.force(t));
        for (int part = 0; part < 3; part++) {
            seen.append(' ').append(x.asks(part, 0, 0));
        }
    }
}
