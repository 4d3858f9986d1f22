import com.sun.management.ThreadMXBean;
import java.lang.management.ManagementFactory;

/** All calls of a run live in one room: what an object and its 512 calls make stays far below it. */
public final class RoomTest {
    private static final int CALLS = 512;
    private static final String LONG_TEXT = "weighs day*7+who*5+day*day or born and not more<told+year*3-who*who;"
        + "pays day+day+day+day+day+day+day+day+day;asks who or who or who or who or who;";

    private RoomTest() { }

    public static void main(String[] arguments) {
        Check.watch();
        ThreadMXBean room = (ThreadMXBean) ManagementFactory.getThreadMXBean();
        long me = Thread.currentThread().getId();
        allCalls(new TwoOnOneDay(), 1);
        long before = room.getThreadAllocatedBytes(me);
        TwoOnOneDay x = new TwoOnOneDay();
        long made = room.getThreadAllocatedBytes(me) - before;
        before = room.getThreadAllocatedBytes(me);
        long sum = 0;
        for (int i = 0; i < CALLS / 60; i++) {
            sum += allCalls(x, i);
        }
        Check.due("its texts came", x.count(2), 6);
        long used = room.getThreadAllocatedBytes(me) - before;
        System.out.println("bytes made: " + made + " for an object, " + used + " for its calls (" + sum + ")");
        // 7.3 million fields and elements in all, of four bytes or eight
        Check.isTrue("all calls stay in the room: " + made + " and " + used, made + used < 7_300_000L * 4);
        Check.end();
    }

    private static long allCalls(TwoOnOneDay x, int i) {
        long sum = x.set(0, 0, 24) + x.set(1, i % 24, i % 10) + x.count(0) + x.bornOn(1);
        sum += Check.text(x, LONG_TEXT) + x.force(i % 3) + x.asks(0, 0, 0) + x.person(i % 6, 9, i % 24) + x.move(0, i % 24);
        sum += x.told(0, 4) + x.weight(0, 0) + x.meets(2, 0) + x.among(1, 0) + x.mine(0, 0) + x.likeliest();
        sum += x.many(0, 1, 0) + x.likely(1) + x.mean(0, 0) + x.covers(1, 0) + x.near(2, 0) + x.needs(1);
        sum += x.first(0, 0) + x.place() + x.asked(0) + x.host(2, 0) + x.cheap(1, 0) + x.wager(1, 0);
        sum += x.film(0, i) + x.judge(0) + x.list(0, 3) + x.comes(0, 0) + x.luck(0, 0) + x.laws(0) + x.can(0, 0, 1);
        sum += x.drawn(1, 0) + x.odds(1, 50, 0) + x.image() + x.back() + x.sheet(1, 2, 40) + x.cell(1, 0, 1);
        return sum + x.copy(1, 0, 0, 0, 1) + x.peopleBy(1, 2, 0, 1) + x.taken(24, 0);
    }
}
