import java.lang.management.ManagementFactory;

/** Whether a call makes nothing: all room is taken by the constructor, and that is little. */
public final class RoomTest {
    private static final int ROOM_OF_ONE = 200_000;

    public static void main(String[] args) {
        var threads = (com.sun.management.ThreadMXBean) ManagementFactory.getThreadMXBean();
        for (int i = 0; i < 20; i++) {
            allCalls(new DayRows());
        }
        long before = threads.getCurrentThreadAllocatedBytes();
        DayRows x = new DayRows();
        long made = threads.getCurrentThreadAllocatedBytes();
        allCalls(x);
        long after = threads.getCurrentThreadAllocatedBytes();
        boolean small = made - before < ROOM_OF_ONE;
        // The measuring itself may take a little.
        boolean none = after - made < 1000;
        if (!small) {
            System.out.println("the constructor takes " + (made - before) + " bytes");
        }
        if (!none) {
            System.out.println("the calls take " + (after - made) + " bytes");
        }
        int passed = (small ? 1 : 0) + (none ? 1 : 0);
        System.out.println("RoomTest: " + passed + " passed, " + (2 - passed) + " failed");
        if (passed < 2) {
            System.exit(1);
        }
    }

    private static long allCalls(DayRows x) {
        long sum = 0;
        for (int name = 0; name < 4; name++) {
            x.feed('a' + name << 24, 0, 0, 0, 0);
            x.end(1);
            sum += x.name();
            sum += x.series(name, 3, 5 * name, 50);
            sum += x.rule(name, 3 - name, 5) + x.rule(name, name, 9);
        }
        sum += x.keep(0) + x.keep(1) + x.take(5) + x.until(9) + x.cancel(60) + x.postpone(70, 900);
        sum += x.shift(1, 5) + x.merge(1, 2) + x.swap(90, 100) + x.unrule(1) + x.resize(4, 3) + x.push(0, 400);
        for (int k = -1; k < 6; k++) {
            sum += x.next(k, 3) + x.of(90, k) + x.row(k, k) + x.letter(k, 0) + x.named(0, k) + x.ruled(0, k);
            sum += x.log(0, k) + x.total(k) + x.skew(k) + x.looks() + x.lookBy(4, 5) + x.best(4, k) + x.widthNow();
            sum += x.ahead(300, k) + x.between(k, 90) + x.crowd(9, k) + x.busiest(300, k) + x.leads(0, k);
            sum += x.soonest(k, 0) + x.day(k) + x.free(5, k) + x.pair(k) + x.when(0, k) + x.same(0, k) + x.told(k);
            sum += x.share(k) + x.bestRows(5, k) + x.skewBy(4, 5, k) + x.longest(k) + x.way(0, 0, k) + x.by(900, k);
            sum += x.digest() + x.count(k);
        }
        sum += x.clear(2) + x.cut(200) + x.undo() + x.undo() + x.back(1);
        // "at 5 ab; rows 2 ; b?"
        x.feed(0x61742035, 0x2061623B, 0x20726F77, 0x73203220, 0x3B20623F);
        sum += x.tell();
        x.feed(0x61742035, 0x2061623B, 0x20726F77, 0x73203220, 0);
        x.end(16);
        return sum + x.tell();
    }
}
