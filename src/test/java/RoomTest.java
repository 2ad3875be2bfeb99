import java.lang.management.ManagementFactory;

/** Whether an object and its 512 calls stay far below the room that LANGUAGE.md leaves to a run. */
public final class RoomTest {
    // 7.3 million fields and elements of four bytes.
    private static final long ROOM = 4L * 7_300_000;
    private static final int ROUNDS = 7;

    public static void main(String[] args) {
        var threads = (com.sun.management.ThreadMXBean) ManagementFactory.getThreadMXBean();
        for (int i = 0; i < 5; i++) {
            allCalls(new DayRows());
        }
        long before = threads.getCurrentThreadAllocatedBytes();
        DayRows x = new DayRows();
        long made = threads.getCurrentThreadAllocatedBytes() - before;
        allCalls(x);
        long all = threads.getCurrentThreadAllocatedBytes() - before;
        System.out.println("the constructor takes " + made + " bytes, the calls " + (all - made));
        boolean fits = all < ROOM;
        System.out.println("RoomTest: " + (fits ? 1 : 0) + " passed, " + (fits ? 0 : 1) + " failed");
        if (!fits) {
            System.exit(1);
        }
    }

    private static long allCalls(DayRows x) {
        long sum = 0;
        for (int name = 0; name < 4; name++) {
            x.feed('a' + name << 24, 0, 0, 0, 0);
            x.end(1);
            sum += x.name();
            sum += x.series(name, 3, 5 * name, 50);
            sum += x.rule(name, 3 - name, 5) + x.rule(name, name, 9);
        }
        sum += x.keep(0) + x.keep(1) + x.take(5) + x.until(9) + x.cancel(60) + x.postpone(70, 900);
        sum += x.shift(1, 5) + x.merge(1, 2) + x.swap(90, 100) + x.unrule(1) + x.resize(4, 3) + x.push(0, 400);
        for (int k = -1; k < ROUNDS - 1; k++) {
            sum += x.next(k, 3) + x.of(90, k) + x.row(k, k) + x.letter(k, 0) + x.named(0, k) + x.ruled(0, k);
            sum += x.log(0, k) + x.total(k) + x.skew(k) + x.looks() + x.lookBy(4, 5) + x.best(4, k) + x.widthNow();
            sum += x.ahead(300, k) + x.between(k, 90) + x.crowd(9, k) + x.busiest(300, k) + x.leads(0, k);
            sum += x.soonest(k, 0) + x.day(k) + x.free(5, k) + x.pair(k) + x.when(0, k) + x.same(0, k) + x.told(k);
            sum += x.share(k) + x.bestRows(5, k) + x.skewBy(4, 5, k) + x.longest(k) + x.way(0, 0, k) + x.by(900, k);
            sum += x.digest() + x.count(k) + x.told(-1) + x.best(64, 1) + x.by(999999999, 1) + x.when(1, 99);
        }
        for (int k = 0; k < 40; k++) {
            sum += x.until(999999999) + x.undo() + x.keep(0) + x.back(0);
        }
        sum += x.clear(2) + x.cut(200) + x.undo() + x.undo() + x.back(1);
        // "at 5 ab; rows 2 ; b?"
        x.feed(0x61742035, 0x2061623B, 0x20726F77, 0x73203220, 0x3B20623F);
        sum += x.tell();
        x.feed(0x61742035, 0x2061623B, 0x20726F77, 0x73203220, 0);
        x.end(16);
        return sum + x.tell();
    }
}
