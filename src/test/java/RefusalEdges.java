import java.util.ArrayList;
import java.util.List;
import java.util.function.Supplier;
import java.util.function.ToLongFunction;

/** What is refused, in which order, and that it changes nothing. */
final class RefusalEdges {
    private static final int NONE = -1, BAD = -2, STATE = -3, FULL = -4;
    private static final int NO_SUCH_ONE = -5, NOT_TOLD = -7, MISSING = -11, OUTSIDE = -12, UNLIKE = -13, BELOW_NOTHING = -14;
    private static final long NO = TwoOnOneDay.NO;

    private record Call(String what, ToLongFunction<TwoOnOneDay> of, long due) { }

    private RefusalEdges() { }

    static void all() {
        Sentences.sentence(Sentences.TERMS, "REFUSALS, of several the first one told", RefusalEdges::firstTold);
        Sentences.sentence(Sentences.TERMS, "(a -1 that is an answer comes behind the refusal of a number)",
            RefusalEdges::minusOne);
        Sentences.sentence(Sentences.TERMS, "NONE there is no such thing; BAD a number is not as told; STATE as told; FULL.",
            RefusalEdges::constants);
        Sentences.sentence(Sentences.TERMS, "They change nothing, but where it is told.", RefusalEdges::unchanged);
        Sentences.sentence(Sentences.TERMS, "What is asked changes nothing, but where it is told.", RefusalEdges::asked);
        Sentences.sentence(Sentences.TERMS, "-11 nothing there, -12 a place outside, -13 of another sort or KIND, "
            + "-14 a size below 0.", RefusalEdges::hosts);
    }

    /** The YEAR of 12, three PEOPLE, two TEXTS, two SHEETS, half a text on THE TAPE, an image that is another. */
    private static TwoOnOneDay plain() {
        TwoOnOneDay x = Made.year(24);
        x.person(0, 0, 3);
        x.person(3, 2, 9);
        x.set(1, 20, 4);
        x.image();
        x.set(0, 0, 12);
        x.person(4, 3, 11);
        x.move(0, 5);
        x.set(1, 0, 7);
        Check.law(x, "weighs 1+born;pays 4+who;asks day+1;");
        Check.row(x, 0, 2, 5, 1, 0);
        Check.row(x, 1, 0, 1, 2, 3, 0, 10, 4);
        Check.tape(x, "weighs 2;pays 1;asks ");
        return x;
    }

    private static TwoOnOneDay fullOfPeople() {
        TwoOnOneDay x = plain();
        for (int p = 3; p < 7; p++) {
            x.person(5, p, p);
        }
        x.sheet(2, 1, 40);
        x.cell(2, 39, 6);
        return x;
    }

    private static TwoOnOneDay fullOfTexts() {
        TwoOnOneDay x = Made.fullOfTexts();
        x.person(0, 0, 0);
        Check.tape(x, "weighs 2;pays 1;asks ");
        return x;
    }

    private static TwoOnOneDay fullTape() {
        TwoOnOneDay x = Made.persons(12, 1);
        Made.blanks(x, 137);
        Check.tape(x, "weighs 3;pays 5;asks 6;");
        return x;
    }

    private static TwoOnOneDay nearlyFullTape() {
        TwoOnOneDay x = Made.persons(12, 1);
        Made.blanks(x, 137);
        Check.tape(x, "weighs 3;pays 5;asks ");
        return x;
    }

    private static Call call(String what, ToLongFunction<TwoOnOneDay> of, long due) {
        return new Call(what, of, due);
    }

    private static void answered(Supplier<TwoOnOneDay> made, List<Call> calls) {
        for (Call call : calls) {
            Check.due(call.what, call.of.applyAsLong(made.get()), call.due);
        }
    }

    private static void changesNothing(Supplier<TwoOnOneDay> made, List<Call> calls) {
        String before = Seen.all(made.get());
        for (Call call : calls) {
            TwoOnOneDay x = made.get();
            Check.due(call.what, call.of.applyAsLong(x), call.due);
            Check.same("after " + call.what, Seen.all(x), before);
        }
    }

    private static void firstTold() {
        answered(RefusalEdges::plain, List.of(
            call("set: NONE ahead of BAD", x -> x.set(2, 99, 99), NONE),
            call("set: BAD ahead of STATE", x -> x.set(0, 0, 0), BAD),
            call("set: STATE", x -> x.set(0, 0, 11), STATE),
            call("set: BAD of a day and v", x -> x.set(1, 12, 10), BAD),
            call("move: -5 ahead of -7", x -> x.move(3, 12), NO_SUCH_ONE),
            call("told: -5 ahead of -7", x -> x.told(3, 5), NO_SUCH_ONE),
            call("judge: BAD sheet ahead of -11", x -> x.judge(4), BAD),
            call("list: -11 ahead of BAD what", x -> x.list(2, 9), MISSING),
            call("list: BAD of the list", x -> x.list(1, 9), BAD),
            call("can: BAD ahead of -11", x -> x.can(-1, 9, 9), BAD),
            call("can: -11 ahead of -5", x -> x.can(2, 9, 9), MISSING),
            call("can: BAD of the list ahead of -5", x -> x.can(1, 9, 9), BAD),
            call("can: -5 ahead of -7", x -> x.can(0, 9, 9), NO_SUCH_ONE),
            call("drawn: -5 ahead of -7", x -> x.drawn(-1, 3), NO_SUCH_ONE),
            call("sheet: BAD ahead of -14", x -> x.sheet(4, 0, -1), BAD),
            call("sheet: BAD ahead of -14", x -> x.sheet(0, 3, -1), BAD),
            call("cell: BAD ahead of -11", x -> x.cell(4, -1, 0), BAD),
            call("cell: -11 ahead of -12", x -> x.cell(2, -1, 0), MISSING),
            call("copy: BAD ahead of -11", x -> x.copy(2, -1, 4, -1, -1), BAD),
            call("copy: -11 ahead of -12", x -> x.copy(2, -1, 0, -1, -1), MISSING),
            call("copy: -11 ahead of -12", x -> x.copy(0, -1, 2, -1, -1), MISSING),
            call("copy: -13 ahead of -12", x -> x.copy(0, -1, 1, -1, -1), UNLIKE),
            call("peopleBy: BAD ahead of -11", x -> x.peopleBy(2, 3, -1, 1), BAD),
            call("peopleBy: BAD ahead of -13", x -> x.peopleBy(0, 1, -1, 8), BAD),
            call("peopleBy: -11 ahead of -12", x -> x.peopleBy(2, 1, -1, 1), MISSING),
            call("peopleBy: -13 ahead of -12", x -> x.peopleBy(0, 1, -1, 1), UNLIKE),
            call("taken: BAD ahead of -12", x -> x.taken(31, 7), BAD),
            call("taken: -12", x -> x.taken(31, 6), OUTSIDE),
            call("taken: -11 ahead of -13", x -> x.taken(1, 0), MISSING),
            call("taken: -11 ahead of -13", x -> x.taken(27, 6), MISSING)));
        answered(RefusalEdges::fullOfPeople, List.of(
            call("person: BAD ahead of FULL", x -> x.person(6, 0, 0), BAD),
            call("person: BAD ahead of FULL", x -> x.person(0, 10, 0), BAD),
            call("person: BAD ahead of FULL", x -> x.person(0, 0, 12), BAD),
            call("person: FULL", x -> x.person(0, 0, 0), FULL)));
        answered(RefusalEdges::fullTape, List.of(
            call("feed: BAD ahead of FULL", x -> x.feed(6, 1, 1, 1, 1, 1), BAD),
            call("feed: BAD ahead of FULL", x -> x.feed(1, 1, 1, 1, 1, 256), BAD),
            call("feed: FULL", x -> x.feed(1, 1, 1, 1, 1, 1), FULL)));
        answered(RefusalEdges::fullOfTexts, List.of(call("text: FULL ahead of the FAULT", TwoOnOneDay::text, FULL)));
    }

    private static void minusOne() {
        Supplier<TwoOnOneDay> nobody = () -> {
            TwoOnOneDay x = new TwoOnOneDay();
            x.sheet(0, 0, 0);
            return x;
        };
        answered(nobody, List.of(
            call("needs: -1", x -> x.needs(1), -1), call("needs: BAD", x -> x.needs(0), BAD),
            call("needs: BAD", x -> x.needs(101), BAD),
            call("host: -1", x -> x.host(1, 0), -1), call("host: NO", x -> x.host(8, 0), NO),
            call("host: NO", x -> x.host(0, 0), NO), call("host: NO", x -> x.host(1, 3), NO),
            call("cheap: -1", x -> x.cheap(1, 0), -1), call("cheap: BAD", x -> x.cheap(0, 0), BAD),
            call("cheap: BAD", x -> x.cheap(101, 1), BAD), call("cheap: BAD", x -> x.cheap(1, 2), BAD),
            call("judge: -1", x -> x.judge(0), -1), call("judge: -11", x -> x.judge(1), MISSING),
            call("list: -1", x -> x.list(0, 0), -1), call("list: BAD", x -> x.list(0, 4), BAD)));
        answered(() -> Made.one(1, 3, 0, 0), List.of(
            call("drawn: -1", x -> x.drawn(0, 0), -1), call("drawn: -7", x -> x.drawn(100000, 0), NOT_TOLD),
            call("drawn: -5", x -> x.drawn(0, 1), NO_SUCH_ONE)));
    }

    private static void constants() {
        Check.due("NONE", TwoOnOneDay.NONE, -1);
        Check.due("BAD", TwoOnOneDay.BAD, -2);
        Check.due("STATE", TwoOnOneDay.STATE, -3);
        Check.due("FULL", TwoOnOneDay.FULL, -4);
        Check.due("NO", TwoOnOneDay.NO, -4611686018427387904L);
    }

    private static void unchanged() {
        List<Call> calls = new ArrayList<>();
        calls.addAll(refusedChanges());
        calls.addAll(refusedSheets());
        calls.addAll(refusedQuestions());
        changesNothing(RefusalEdges::plain, calls);
        changesNothing(RefusalEdges::fullOfPeople, List.of(
            call("an eighth one", x -> x.person(1, 1, 1), FULL), call("a wrong eighth one", x -> x.person(1, 1, 12), BAD),
            call("nobody of a sheet", x -> x.peopleBy(1, 0, 0, 2), 0),
            call("nobody of a sheet, and outside", x -> x.peopleBy(1, 0, 0, 3), OUTSIDE),
            call("all of a sheet, and one more", x -> x.copy(2, 0, 2, 1, 40), OUTSIDE),
            call("behind the last of 40", x -> x.cell(2, 40, 1), OUTSIDE)));
        changesNothing(RefusalEdges::fullOfTexts, List.of(call("a seventh text", TwoOnOneDay::text, FULL),
            call("no such text", x -> x.force(6), BAD)));
        changesNothing(RefusalEdges::fullTape, List.of(call("one byte more", x -> x.feed(1, '1', 0, 0, 0, 0), FULL),
            call("five bytes more", x -> x.feed(5, '1', '1', '1', '1', '1'), FULL)));
        changesNothing(RefusalEdges::nearlyFullTape, List.of(
            call("one byte too many", x -> x.feed(3, '1', '1', '1', '1', '1'), FULL),
            call("three bytes too many", x -> x.feed(5, '1', '1', '1', '1', '1'), FULL)));
        changesNothing(() -> Made.persons(12, 1), List.of(call("no image", TwoOnOneDay::back, STATE)));
        // where it is told: a FAULT empties THE TAPE, and who stood ahead of what is outside came
        TwoOnOneDay x = plain();
        Check.due("a fault", x.text(), -121);
        Check.due("the tape is empty", x.count(4), 0);
        Check.due("outside", x.peopleBy(1, 0, 0, 3), OUTSIDE);
        Check.due("one came, one is left out", x.count(0), 4);
    }

    private static List<Call> refusedChanges() {
        return List.of(
            call("set what", x -> x.set(2, 0, 5), NONE), call("no days", x -> x.set(0, 0, 0), BAD),
            call("25 days", x -> x.set(0, 0, 25), BAD), call("a told day would be none", x -> x.set(0, 0, 11), STATE),
            call("a lost day", x -> x.set(1, 20, 5), BAD), call("ten born", x -> x.set(1, 0, 10), BAD),
            call("fewer than none born", x -> x.set(1, 0, -1), BAD),
            call("no bytes", x -> x.feed(0, '1', '1', '1', '1', '1'), BAD),
            call("six bytes", x -> x.feed(6, '1', '1', '1', '1', '1'), BAD),
            call("the fifth is none", x -> x.feed(4, '1', '1', '1', '1', 256), BAD),
            call("the second is none", x -> x.feed(2, '1', -1, '1', '1', '1'), BAD),
            call("no such law", x -> x.force(2), BAD), call("no such law", x -> x.force(-1), BAD),
            call("no such kind", x -> x.person(6, 1, 1), BAD), call("too much more", x -> x.person(1, 10, 1), BAD),
            call("told no day", x -> x.person(1, 1, 12), BAD), call("nobody moves", x -> x.move(3, 1), NO_SUCH_ONE),
            call("to no day", x -> x.move(0, 12), NOT_TOLD), call("to no day", x -> x.move(0, -1), NOT_TOLD),
            call("film to no sheet", x -> x.film(4, 0), BAD), call("film by no seed", x -> x.film(0, 100000), BAD),
            call("film by no seed", x -> x.film(2, -1), BAD));
    }

    private static List<Call> refusedSheets() {
        return List.of(
            call("no such sheet", x -> x.sheet(4, 2, 1), BAD), call("no such sort", x -> x.sheet(0, 3, 1), BAD),
            call("no such sort", x -> x.sheet(0, -2, 1), BAD), call("too long", x -> x.sheet(0, 2, 41), BAD),
            call("below 0", x -> x.sheet(0, 2, -1), BELOW_NOTHING), call("below 0", x -> x.sheet(2, 2, -1), BELOW_NOTHING),
            call("no such sheet's cell", x -> x.cell(4, 0, 9), BAD), call("a missing one's cell", x -> x.cell(2, 0, 9), MISSING),
            call("before the first cell", x -> x.cell(0, -1, 9), OUTSIDE),
            call("behind the last cell", x -> x.cell(0, 3, 9), OUTSIDE),
            call("from no sheet", x -> x.copy(4, 0, 0, 0, 1), BAD), call("to no sheet", x -> x.copy(0, 0, 4, 0, 1), BAD),
            call("from a missing one", x -> x.copy(2, 0, 0, 0, 1), MISSING),
            call("to a missing one", x -> x.copy(0, 0, 2, 0, 1), MISSING),
            call("to another sort", x -> x.copy(0, 0, 1, 0, 1), UNLIKE),
            call("more than there are", x -> x.copy(1, 4, 1, 0, 3), OUTSIDE),
            call("more than there is room", x -> x.copy(1, 0, 1, 4, 3), OUTSIDE),
            call("fewer than none", x -> x.copy(1, 2, 1, 3, -1), OUTSIDE),
            call("people by no sheet", x -> x.peopleBy(4, 0, 0, 1), BAD), call("by no sort", x -> x.peopleBy(1, 3, 0, 1), BAD),
            call("eight people", x -> x.peopleBy(1, 0, 0, 8), BAD), call("fewer than none", x -> x.peopleBy(1, 0, 0, -1), BAD),
            call("people by a missing one", x -> x.peopleBy(2, 0, 0, 1), MISSING),
            call("people by another sort", x -> x.peopleBy(1, 1, 0, 1), UNLIKE),
            call("people from before the first", x -> x.peopleBy(1, 0, -1, 2), OUTSIDE),
            call("people from the end", x -> x.peopleBy(1, 0, 4, 2), OUTSIDE),
            call("no people", x -> x.peopleBy(1, 0, 0, 0), 0));
    }

    private static List<Call> refusedQuestions() {
        return List.of(
            call("count", x -> x.count(5), BAD), call("bornOn", x -> x.bornOn(12), BAD), call("asks", x -> x.asks(3, 0, 0), BAD),
            call("told", x -> x.told(3, 0), NO_SUCH_ONE), call("weight", x -> x.weight(0, 12), BAD),
            call("meets", x -> x.meets(8, 0), NO), call("among", x -> x.among(8, 0), NO), call("mine", x -> x.mine(12, 0), NO),
            call("many", x -> x.many(0, 22, 0), NO), call("likely", x -> x.likely(2), BAD), call("mean", x -> x.mean(2, 0), NO),
            call("covers", x -> x.covers(1 << 12, 0), NO), call("near", x -> x.near(25, 0), NO),
            call("needs", x -> x.needs(0), BAD), call("first", x -> x.first(3, 0), NO), call("asked", x -> x.asked(2), NO),
            call("host", x -> x.host(8, 0), NO), call("cheap", x -> x.cheap(0, 0), BAD), call("wager", x -> x.wager(8, 0), NO),
            call("judge", x -> x.judge(2), MISSING), call("list", x -> x.list(0, 4), BAD), call("comes", x -> x.comes(1, 0), NO),
            call("luck", x -> x.luck(4, 0), NO), call("laws", x -> x.laws(1), BAD), call("can", x -> x.can(0, 3, 0), NO_SUCH_ONE),
            call("drawn", x -> x.drawn(100000, 0), NOT_TOLD), call("odds", x -> x.odds(0, 51, 0), NO),
            call("taken", x -> x.taken(31, 0), OUTSIDE));
    }

    private static void asked() {
        String before = Seen.all(plain());
        TwoOnOneDay x = plain();
        for (int round = 0; round < 2; round++) {
            askAll(x, round);
        }
        Check.same("after all questions", Seen.all(x), before);
        // and each of them answers the same again
        TwoOnOneDay y = plain();
        Check.same("all answers again", askAll(y, 0) + askAll(y, 1), askAll(y, 0) + askAll(y, 1));
    }

    private static String askAll(TwoOnOneDay x, int part) {
        long[] answers = {
            x.count(part), x.bornOn(part), x.asks(part, 0, 3), x.told(part, 4), x.weight(part, 2), x.meets(2, part),
            x.among(5, part), x.mine(0, part), x.likeliest(), x.many(part, 1, part), x.likely(part), x.mean(part, part),
            x.covers(33, part), x.near(2, part), x.needs(10), x.first(2, part), x.place(), x.asked(part),
            x.host(2, part), x.cheap(1, part), x.wager(7, part), x.judge(0), x.list(0, part), x.comes(0, part),
            x.luck(0, part), x.laws(0), x.can(0, 1, part), x.drawn(77, part), x.odds(5, 50, part), x.taken(24 + part, 0),
        };
        StringBuilder told = new StringBuilder();
        for (long answer : answers) {
            told.append(answer).append(' ');
        }
        return told.toString();
    }

    private static void hosts() {
        answered(RefusalEdges::plain, List.of(
            call("nothing there", x -> x.cell(2, 0, 0), -11), call("nothing there", x -> x.copy(2, 0, 0, 0, 0), -11),
            call("nothing there", x -> x.peopleBy(2, 0, 0, 0), -11), call("nothing there", x -> x.taken(3, 6), -11),
            call("nothing there", x -> x.judge(2), -11), call("nothing there", x -> x.list(3, 0), -11),
            call("nothing there", x -> x.laws(2), -11), call("nothing there", x -> x.can(3, 0, 0), -11),
            call("a place outside", x -> x.cell(0, 3, 0), -12), call("a place outside", x -> x.copy(0, 3, 0, 0, 1), -12),
            call("a place outside", x -> x.peopleBy(0, 2, 1, 1), -12), call("a place outside", x -> x.taken(-1, 6), -12),
            call("another sort", x -> x.copy(1, 0, 0, 0, 0), -13), call("another sort", x -> x.peopleBy(1, 2, 0, 0), -13),
            call("another kind", x -> x.taken(25, 2), -13), call("a size below 0", x -> x.sheet(3, 0, -1), -14)));
    }
}
