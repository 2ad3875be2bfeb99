/** For each promise of the document some calls with the answers that are due, found by hand. */
public final class PromiseTest extends Checks {
    private static final int PROMISES = 55;

    public static void main(String[] args) {
        int failed = 0;
        for (int promise = 1; promise <= PROMISES; promise++) {
            begin("promise" + promise);
            run(promise);
            if (wrongAnswers() > 0) {
                failed++;
            }
        }
        System.out.println("PromiseTest: " + (PROMISES - failed) + " passed, " + failed + " failed");
        if (failed > 0) {
            System.exit(1);
        }
    }

    private static void run(int promise) {
        try {
            PromiseTest.class.getDeclaredMethod("promise" + promise).invoke(null);
        } catch (ReflectiveOperationException e) {
            say(e + ", " + e.getCause());
        }
    }

    static void promise1() {
        DayRows x = new DayRows();
        int[] counts = {0, 4, 10, 0, 0, 0, 0, 0, 0, 0};
        for (int what = 0; what < 10; what++) {
            is(x.count(what), counts[what]);
        }
        for (int what = 0; what < 8; what++) {
            is(x.total(what), 0);
        }
        is(x.letter(0, 0), NONE);
        is(x.log(0, 0), NONE);
        is(x.ruled(0, 0), NONE);
        is(x.undo(), NONE);
        is(x.back(1), -2);
    }

    static void promise2() {
        DayRows x = new DayRows();
        is(x.feed(0x61742035, 0x20616263, 0x6465663B, 0x61742037, 0x20617879), 20);
        is(x.end(20), 20);
        is(x.tell(), 2);
        text(x, "rows 4;wide 10;at 5 abcdef;at 7 axy");
        for (int n = 20; n <= 400; n += 20) {
            is(x.feed(-1, 0, Integer.MIN_VALUE, 1, 0x20202020), n);
        }
        is(x.feed(0, 0, 0, 0, 0), NONE);
        is(x.count(7), 400);
        is(x.end(381), 381);
        is(x.feed(0, 0, 0, 0, 0), NONE);
        is(x.end(380), 380);
        is(x.feed(0, 0, 0, 0, 0), 400);
    }

    static void promise3() {
        DayRows x = new DayRows();
        is(x.end(0), 0);
        is(x.end(1), NONE);
        x.feed(0x61626364, 0, 0, 0, 0);
        is(x.end(21), NONE);
        is(x.end(-1), NONE);
        is(x.end(Integer.MIN_VALUE), NONE);
        is(x.count(7), 20);
        is(x.end(20), 20);
        is(x.end(3), 3);
        is(x.count(7), 3);
        is(x.end(4), NONE);
        is(x.name(), 0);
        is(x.letter(0, 2), 'c');
        is(x.letter(0, 3), NONE);
        is(x.count(6), 1);
    }

    static void promise4() {
        faultsOfForm();
        faultsOfNumbers();
        faultsOfNames();
        faultsOfTooMuch();
        tellsInOrder();
        tellsInPlace();
    }

    private static void faultsOfForm() {
        fault("", 0, 1);
        fault("  ", 2, 1);
        fault(";", 0, 1);
        fault("rows", 4, 1);
        fault("rows  ", 6, 1);
        fault("row 4", 0, 1);
        fault(" rowsx 4", 1, 1);
        fault("ROWS 4", 0, 1);
        fault("rows x", 5, 1);
        fault("rows -2", 5, 1);
        fault("rows 4x", 6, 1);
        fault("rows 4 4", 7, 1);
        fault("rows 4;", 7, 1);
        fault("rows 4;  ", 9, 1);
        fault("rows 4;;", 7, 1);
        fault("rows 4;4", 7, 1);
        fault("rows 4;rowz 4", 7, 1);
        fault("at 5", 4, 1);
        fault("at 5 5", 5, 1);
        fault("at q 5", 3, 1);
        fault("atq 5", 0, 1);
        fault("at 5 q x", 7, 1);
        fault("at 5 qQ", 6, 1);
        fault("at\t5 q", 2, 1);
        fault("at 5 \u00e9", 5, 1);
        fault("at 5 q\0", 6, 1);
        fault("every 7 form 5 times 3 b", 8, 1);
        fault("every 7 from 5 time 3 b", 15, 1);
        fault("every 7 from 5 timess 3 b", 15, 1);
        fault("every 7 from 5 times 3", 22, 1);
        fault("after q on 7 b", 8, 1);
        fault("after q in 7", 12, 1);
        fault("after in 7 b", 9, 1);
    }

    private static void faultsOfNumbers() {
        fault("rows 3", 5, 2);
        fault("rows 0", 5, 2);
        fault("rows 1", 5, 2);
        fault("rows 128", 5, 2);
        fault("rows  4294967300", 6, 2);
        fault("wide 0", 5, 2);
        fault("wide 100000000", 5, 2);
        fault("at 1000000000 q", 3, 2);
        fault("at 9999999990 q", 3, 2);
        fault("at 99999999900 q", 3, 2);
        fault("at 4294967301 q", 3, 2);
        fault("at 18446744073709551621 q", 3, 2);
        fault("every 0 from 1 times 2 q", 6, 2);
        fault("every 1000000 from 1 times 2 q", 6, 2);
        fault("every 1 from 1000000000 times 2 q", 13, 2);
        fault("every 7 from 5 times 0 b", 21, 2);
        fault("every 7 from 5 times 51 b", 21, 2);
        fault("after q in 0 b", 11, 2);
        fault("after q in 1000000 b", 11, 2);
        is(tell(new DayRows(), "rows 0000000000000064;wide 099999999"), 0);
        is(tell(new DayRows(), "every 999999 from 0 times 50 q;at 999999999 q;after q in 999999 q"), 51);
    }

    private static void faultsOfNames() {
        fault("at 5 abcdefg", 11, 2);
        fault("at 5 abcdefghi;", 11, 2);
        fault("after abcdefg in 5 q", 12, 2);
        fault("after q in 5 abcdefg", 19, 2);
        String sixteen = "at0a;at0b;at0c;at0d;at0e;at0f;at0g;at0h;at0i;at0j;at0k;at0l;at0m;at0n;at0o;";
        fault(sixteen + "at0p;at0q", 83, 3);
        fault(sixteen + "at0p;at0  qrs", 85, 3);
        fault(sixteen + "after p in 1 q", 88, 3);
        fault(sixteen + "at0p;at0abcdefg", 89, 2);
        fault(sixteen + "at0p;every 1 from 999999999 times 2 q", 111, 3);
        is(tell(new DayRows(), sixteen + "at0p;at0a;at0p"), 18);
        is(tell(new DayRows(), "at 1 rows;at 2 wide;at 3 at;after in in 5 in;at 4 after;at 5 every"), 5);
    }

    private static void faultsOfTooMuch() {
        String fifty = "every 1 from 0 times 50 q;";
        fault(fifty + fifty + fifty + fifty + "at 0 q", 104, 4);
        fault(fifty + fifty + fifty + "at 0 q; " + fifty + "at 0 Q", 86, 4);
        fault(fifty + fifty + fifty + fifty + "at 0 q x", 104, 4);
        is(tell(new DayRows(), fifty + fifty + fifty + fifty + "rows 2;after q in 5 q"), 200);
        fault("every 999999 from 999999999 times 2 q", 0, 4);
        fault("  every 1 from 999999950 times 50 q;", 36, 1);
        fault("  every 1 from 999999951 times 50 q;", 2, 4);
        fault("every 1 from 999999999 times 2 abcdefg", 37, 2);
        String rules = "after a in 1 a;after a in 1 a;after a in 1 a;after a in 1 a;";
        fault(rules + rules + rules + "after a in 1 a", 180, 4);
        fault(rules + rules + rules + "after a in 1", 192, 1);
        is(tell(new DayRows(), rules + rules + rules + "at 0 a"), 1);
    }

    private static void tellsInOrder() {
        DayRows x = of("rows4;wide10;at5q;every7from5times2b;after b in7q");
        order(x, 0, 1, 2);
        is(x.next(2, 2), 12);
        is(x.count(4), 2);
        is(x.letter(0, 0), 'q');
        is(x.ruled(0, 0), 1);
        is(x.ruled(0, 1), 0);
        laid(of("at 5 q;rows 2"), 2, 10, 1, 0, 0);
        laid(of("at 5 q;rows 4;wide 10"), 4, 10, 0, 0, 0);
        laid(of("at 5 q;at 6 q;wide 20;rows 8"), 8, 20, 4, 0, 0);
        laid(of("rows 64;at 5 q"), 64, 10, 0, 0, 0);
        laid(of("every 5 from 0 times 8 q"), 4, 10, 0, 0, 0);
        laid(of("every 5 from 0 times 9 q"), 8, 15, 9, 1, 0);
        laid(of("every 5 from 0 times 9 q;wide 3;rows 2;at 0 q"), 4, 12, 37, 2, 0);
    }

    private static void tellsInPlace() {
        DayRows x = names(3);
        x.push(2, 7);
        x.keep(1);
        x.take(1);
        x.push(2, 50);
        x.rule(0, 1, 5);
        is(tell(x, "at 5"), -2 - 33);
        is(x.count(7), 0);
        is(x.count(6), 7);
        is(x.count(3), 7);
        order(x, 1);
        is(tell(x, "at 4 b"), 1);
        int[] counts = {1, 4, 10, 0, 1, 0, 0, 0, 2, 1};
        for (int what = 0; what < 10; what++) {
            is(x.count(what), counts[what]);
        }
        is(x.total(5), 0);
        is(x.log(0, 0), NONE);
        is(x.undo(), NONE);
        is(x.named(0, 2), 0);
        is(x.letter(0, 0), 'b');
        is(x.back(1), 1);
        is(x.count(4), 3);
        is(x.next(0, 2), 7);
        tellsOnceMore();
    }

    private static void tellsOnceMore() {
        DayRows x = of("every 9 from 7 times 20 b;after b in 999999 c;after b in 5 c");
        x.take(3);
        x.cut(50);
        is(x.ahead(4, 0) >= 0 ? 1 : 0, 1);
        is(tell(x, "at 4 b"), 1);
        for (int what = 0; what < 8; what++) {
            is(x.total(what), 0);
        }
        int[] counts = {1, 4, 10, 0, 1, 0, 0, 0, 0, 1};
        for (int what = 0; what < 10; what++) {
            is(x.count(what), counts[what]);
        }
        is(x.named(0, 2), 0);
        is(x.log(0, 0), NONE);
        tell(x, "rows 64;wide 8;at 999999999 b;after b in 5 b");
        x.take(1);
        is(x.named(0, 4), 1);
        tell(x, "at 3 c");
        is(x.named(0, 2), 0);
        is(x.named(0, 4), 0);
        is(x.total(6), 0);
        laid(x, 4, 10, 0, 0, 0);
    }

    static void promise5() {
        DayRows x = new DayRows();
        is(x.name(), -2);
        is(name(x, "abcdef"), 0);
        is(x.count(7), 0);
        is(name(x, "abcdefg"), -2);
        is(x.count(7), 0);
        is(name(x, "at"), 1);
        is(name(x, "abcdef"), 0);
        is(x.count(6), 2);
        for (String bad : new String[] {" a", "a ", "a b", "A", "a1", "`", "{", "\0", "\u00e1"}) {
            is(name(x, bad), -2);
        }
        is(name(x, "aa"), 2);
        is(name(x, "a"), 3);
        for (int i = 4; i < 16; i++) {
            is(name(x, "" + (char) ('a' + i)), i);
        }
        is(name(x, "zz"), -3);
        is(x.count(7), 0);
        is(name(x, "z z"), -2);
        is(name(x, "p"), 15);
        is(x.count(4), 16);
    }

    static void promise6() {
        DayRows x = names(2);
        is(x.push(0, 20), 0);
        is(x.push(1, 10), 1);
        is(x.push(1, 20), 2);
        is(x.push(0, LAST), 3);
        is(x.push(0, 0), 4);
        order(x, 4, 1, 0, 2, 3);
        is(x.push(2, 5), NONE);
        is(x.push(-1, 5), NONE);
        is(x.push(0, -1), NONE);
        is(x.push(0, LAST + 1), NONE);
        is(x.count(6), 7);
        x.take(2);
        is(x.push(0, 9), -2);
        is(x.push(5, 9), NONE);
        is(x.count(6), 8);
        is(x.push(0, 10), 5);
        order(x, 5, 0, 2, 3);
        DayRows full = full();
        is(full.push(0, 5), -3);
        is(full.push(2, 5), NONE);
        full.take(1);
        is(full.push(0, 5), 200);
        is(full.push(0, 5), -3);
        full.take(1);
        is(full.push(0, 0), -2);
    }

    static void promise7() {
        takesByRows();
        takesWithRules();
        DayRows x = of("every 1 from 0 times 50 a;every 1 from 0 times 50 a");
        is(x.take(0), NONE);
        is(x.take(100), NONE);
        is(x.take(-5), NONE);
        is(x.count(6), 0);
        is(x.take(99), 99);
        is(x.take(99), 1);
        is(x.take(1), -2);
        is(x.take(0), NONE);
        is(x.count(6), 2);
    }

    private static void takesByRows() {
        DayRows x = of("rows 2;wide 10;at 5 a;at 19 a;at 45 b;at 45 c");
        is(x.take(1), 1);
        is(x.log(0, 3), 1);
        is(x.take(1), 1);
        is(x.log(0, 3), 2);
        is(x.total(2), 0);
        is(x.take(1), 1);
        is(x.log(0, 0), 2);
        is(x.log(0, 3), 4);
        is(x.total(2), 1);
        is(x.take(2), 1);
        is(x.log(0, 0), 3);
        is(x.log(0, 3), 1);
        is(x.total(0), 8);
        is(x.count(3), 45);
        is(x.named(0, 2), 2);
        is(x.named(2, 2), 1);
        DayRows edge = of("at 9 a;at 20 a;at 39 a;at 40 a;at 50 a;at 70 a;rows 2;wide 10");
        int[] looks = {1, 4, 2, 2, 2, 4};
        for (int k = 0; k < looks.length; k++) {
            is(edge.take(1), 1);
            is(edge.log(0, 3), looks[k]);
        }
    }

    private static void takesWithRules() {
        DayRows x = of("at 5 q;at 9 b;after q in 7 b;after b in 1 c;after q in 2 q");
        is(x.take(1), 1);
        order(x, 3, 1, 2);
        is(x.next(0, 1), 0);
        is(x.next(0, 2), 7);
        is(x.next(2, 2), 12);
        is(x.take(2), 2);
        order(x, 5, 6, 2, 4);
        is(x.next(1, 1), 2);
        is(x.next(1, 2), 10);
        DayRows late = of("at 999999999 q;after q in 1 b;after q in 2 q");
        late.take(1);
        is(late.count(0), 0);
        is(late.count(9), 1);
        is(late.total(6), 2);
        is(late.named(0, 4), 1);
        is(late.named(1, 4), 1);
        DayRows full = full();
        full.rule(0, 0, 500);
        full.rule(0, 1, 600);
        is(full.take(1), 1);
        is(full.count(0), 200);
        is(full.count(9), 201);
        is(full.named(0, 4), 0);
        is(full.named(1, 4), 1);
        DayRows shrinks = of("rows 8;at 5 q;at 6 q;at 7 q;at 9 q;after q in 5 b");
        is(shrinks.take(1), 1);
        laid(shrinks, 4, 3, 3, 0, 1);
        is(shrinks.count(0), 4);
    }

    static void promise8() {
        DayRows x = of("at 5 q;at 9 b;at 30 b;after q in 7 b;after b in 3 q");
        is(x.until(4), -2);
        is(x.until(-1), NONE);
        is(x.until(LAST + 1), NONE);
        is(x.count(6), 0);
        is(x.until(12), 4);
        is(x.count(3), 12);
        is(x.log(1, 2), 12);
        is(x.log(1, 1), 1);
        is(x.log(0, 1), 0);
        is(x.until(12), -2);
        is(x.count(6), 1);
        DayRows endless = of("at 0 q;after q in 1 q");
        is(endless.until(998), 999);
        is(endless.until(LAST), 999);
        is(endless.count(3), 1997);
        DayRows last = of("at 999999999 q");
        is(last.until(LAST - 1), -2);
        is(last.until(LAST), 1);
        is(last.until(LAST), -2);
    }

    static void promise9() {
        DayRows x = of("every 3 from 0 times 9 q");
        laid(x, 8, 9, 9, 1, 0);
        is(x.cancel(9), NONE);
        is(x.cancel(-1), NONE);
        is(x.cancel(4), 8);
        is(x.cancel(4), NONE);
        is(x.total(7), 1);
        is(x.count(6), 1);
        order(x, 0, 1, 2, 3, 5, 6, 7, 8);
        for (int left = 7; left >= 4; left--) {
            is(x.cancel(8 - (7 - left)), left);
        }
        laid(x, 8, 9, 9, 1, 0);
        is(x.cancel(1), 3);
        laid(x, 4, 12, 12, 1, 1);
        x.take(1);
        is(x.cancel(0), NONE);
        is(x.cancel(2), 1);
        laid(x, 2, 12, 13, 1, 2);
        is(x.cancel(3), 0);
        laid(x, 2, 12, 13, 1, 2);
        is(x.total(7), 8);
        is(x.count(3), 0);
    }

    static void promise10() {
        DayRows x = of("rows 8;wide 7;at 5 a;at 9 b;at 12 a;at 30 b;at 31 a;at 90 c;after a in 5 b");
        is(x.clear(3), NONE);
        is(x.clear(-1), NONE);
        is(x.clear(0), 3);
        order(x, 1, 3, 5);
        laid(x, 4, 120, 3, 0, 1);
        is(x.total(7), 3);
        is(x.clear(0), -2);
        is(x.clear(2), 1);
        is(x.count(6), 2);
        is(x.count(9), 6);
    }

    static void promise11() {
        DayRows x = of("at 5 a;at 9 b;at 9 b;at 12 a");
        is(x.postpone(0, 9), 5);
        order(x, 0, 1, 2, 3);
        is(x.of(0, 2), 9);
        is(x.postpone(1, 12), 9);
        order(x, 0, 2, 1, 3);
        is(x.postpone(3, 12), -3);
        is(x.postpone(4, 12), NONE);
        is(x.postpone(3, -1), NONE);
        is(x.postpone(3, LAST + 1), NONE);
        is(x.postpone(3, 0), 12);
        is(x.postpone(3, LAST), 0);
        is(x.count(6), 4);
        is(x.total(7), 0);
        x.take(1);
        is(x.postpone(2, 8), -2);
        is(x.postpone(0, 50), NONE);
        is(x.postpone(9, 8), NONE);
        DayRows both = of("rows 8;at 5 a;at 9 b;at 12 b;at 20 a");
        is(both.postpone(0, 14), 5);
        laid(both, 4, 15, 3, 0, 1);
        DayRows grows = of("every 1 from 0 times 9 a;rows 4");
        is(grows.postpone(0, 1), 0);
        laid(grows, 8, 1, 27, 2, 0);
        is(grows.count(9), 9);
    }

    static void promise12() {
        DayRows x = names(2);
        is(x.series(1, 10, 50, 3), 0);
        is(x.series(0, 999999, 999000000, 2), 3);
        order(x, 0, 1, 2, 3, 4);
        is(x.next(1, 2), 60);
        is(x.next(4, 2), LAST);
        is(x.next(4, 1), 0);
        is(x.count(6), 4);
        is(x.series(2, 10, 50, 3), NONE);
        is(x.series(0, 0, 50, 3), NONE);
        is(x.series(0, 1000000, 50, 3), NONE);
        is(x.series(0, 10, -1, 3), NONE);
        is(x.series(0, 10, LAST + 1, 3), NONE);
        is(x.series(0, 10, 50, 0), NONE);
        is(x.series(0, 10, 50, 51), NONE);
        is(x.series(0, 999999, 999000001, 2), -3);
        is(x.series(0, 999999, LAST, 1), 5);
        x.take(1);
        is(x.series(0, 10, 49, 3), -2);
        is(x.series(0, 999999, 0, 50), -2);
        is(x.series(0, 1, 50, 50), 6);
        is(x.count(0), 55);
        x.series(0, 1, 50, 50);
        x.series(0, 1, 50, 50);
        is(x.series(0, 1, 50, 46), -3);
        is(x.series(0, 1, 49, 46), -2);
        is(x.series(0, 1, 50, 45), 156);
        is(x.count(0), 200);
        DayRows grows = names(1);
        grows.series(0, 5, 0, 40);
        laid(grows, 32, 15, 9 + 17 + 33, 3, 0);
        is(grows.count(6), 2);
    }

    static void promise13() {
        DayRows x = of("at 5 a;at 5 b;at 9 a;at 12 b;at 12 a");
        is(x.shift(0, 7), 3);
        order(x, 1, 0, 3, 2, 4);
        is(x.next(1, 2), 12);
        is(x.next(3, 2), 16);
        is(x.next(4, 2), 19);
        is(x.shift(2, 7), NONE);
        is(x.shift(0, 0), NONE);
        is(x.shift(0, 1000000), NONE);
        is(x.count(6), 1);
        is(x.total(7), 0);
        x.clear(1);
        is(x.shift(1, 7), -2);
        DayRows late = of("at 5 a;at 999999990 a");
        is(late.shift(0, 10), -3);
        is(late.next(0, 2), 5);
        is(late.shift(0, 9), 2);
        is(late.next(1, 2), LAST);
        is(late.shift(0, 1), -3);
        DayRows alone = of("at 999999990 a;at 999999995 b");
        is(alone.shift(0, 10), -3);
        is(alone.shift(0, 9), 1);
        order(alone, 1, 0);
        DayRows anew = of("rows 8;at 0 a;at 10 a;at 20 b;at 40 a");
        is(anew.shift(0, 15), 3);
        laid(anew, 4, 45, 3, 0, 1);
        order(anew, 0, 2, 1, 3);
    }

    static void promise14() {
        DayRows x = of("at 5 a;at 7 b;at 9 a;at 30 c;after a in 5 c");
        is(x.merge(0, 0), NONE);
        is(x.merge(0, 3), NONE);
        is(x.merge(-1, 0), NONE);
        is(x.merge(0, 1), 2);
        is(x.named(0, 0), 0);
        is(x.named(1, 0), 3);
        is(x.next(0, 1), 1);
        is(x.merge(0, 1), -2);
        is(x.merge(0, 0), NONE);
        is(x.ruled(0, 0), 0);
        is(x.count(4), 3);
        is(x.count(6), 1);
        laid(x, 4, 10, 0, 0, 0);
        order(x, 0, 1, 2, 3);
    }

    static void promise15() {
        DayRows x = of("rows 8;at 5 a;at 7 b;at 9 a;at 9 b;at 30 c");
        is(x.cut(31), -2);
        is(x.cut(-1), NONE);
        is(x.cut(LAST + 1), NONE);
        is(x.count(6), 0);
        is(x.cut(9), 3);
        order(x, 0, 1);
        is(x.total(7), 3);
        laid(x, 4, 36, 3, 0, 1);
        is(x.cut(0), 2);
        is(x.cut(0), -2);
        is(x.count(6), 2);
        DayRows first = of("rows 8;at 0 a;at 10 a;at 20 b;at 50 a");
        is(first.cut(10), 3);
        laid(first, 2, 75, 4, 0, 2);
    }

    static void promise16() {
        DayRows x = of("at 5 a;at 9 b;at 9 b;at 12 c");
        is(x.swap(0, 3), 1);
        order(x, 3, 1, 2, 0);
        is(x.next(0, 1), 2);
        is(x.next(3, 1), 0);
        is(x.of(0, 2), 12);
        is(x.swap(1, 2), -2);
        is(x.swap(1, 1), NONE);
        is(x.swap(1, 4), NONE);
        is(x.swap(-1, 1), NONE);
        is(x.count(6), 1);
        x.take(1);
        is(x.swap(3, 1), NONE);
        DayRows anew = of("rows 16;wide 7;at 0 a;at 10 a;at 20 b;at 50 a;at 60 b");
        is(anew.swap(4, 0), 1);
        laid(anew, 4, 60, 7, 0, 2);
        order(anew, 4, 1, 2, 3, 0);
        DayRows grows = of("every 1 from 0 times 9 a;at 40 a;rows 4");
        is(grows.swap(9, 0), 1);
        laid(grows, 8, 3, 9 + 10 + 9, 2, 0);
    }

    static void promise17() {
        DayRows x = names(2);
        is(x.rule(0, 1, 0), NONE);
        is(x.rule(0, 1, 1000000), NONE);
        is(x.rule(0, 2, 5), NONE);
        is(x.rule(2, 0, 5), NONE);
        is(x.rule(-1, 0, 5), NONE);
        is(x.count(6), 2);
        is(x.rule(0, 1, 1), 0);
        is(x.rule(1, 1, 999999), 1);
        for (int k = 2; k < 12; k++) {
            is(x.rule(0, 1, 5), k);
        }
        is(x.rule(0, 1, 5), -2);
        is(x.rule(0, 1, 0), NONE);
        is(x.count(5), 12);
        x.push(1, 0);
        is(x.take(1), 1);
        order(x, 1);
        is(x.next(0, 2), 999999);
        x.push(0, 0);
        x.take(1);
        is(x.count(0), 12);
    }

    static void promise18() {
        DayRows x = of("after a in 1 b;after b in 2 c;after c in 3 a");
        is(x.unrule(3), NONE);
        is(x.unrule(-1), NONE);
        is(x.count(6), 0);
        is(x.unrule(1), 2);
        is(x.ruled(0, 2), 1);
        is(x.ruled(1, 0), 2);
        is(x.ruled(1, 1), 0);
        is(x.ruled(1, 2), 3);
        is(x.ruled(2, 0), NONE);
        is(x.unrule(1), 1);
        is(x.unrule(0), 0);
        is(x.unrule(0), NONE);
        is(x.count(6), 3);
    }

    static void promise19() {
        DayRows x = of("at 5 a;at 25 a;at 130 a");
        for (int rows : new int[] {0, 1, 3, 6, 65, 128, -2, Integer.MIN_VALUE}) {
            is(x.resize(rows, 10), NONE);
        }
        is(x.resize(4, 0), NONE);
        is(x.resize(4, 100000000), NONE);
        is(x.resize(4, 10), -2);
        is(x.count(6), 0);
        is(x.resize(64, 99999999), 4);
        is(x.resize(2, 99999999), 64);
        is(x.resize(2, 1), 2);
        laid(x, 2, 1, 9, 0, 0);
        is(x.row(0, NONE), 1);
        is(x.row(1, 1), 1);
        is(x.resize(16, 10), 2);
        is(x.row(13, 0), 2);
        is(x.row(2, 0), 1);
        is(x.count(6), 4);
    }

    static void promise20() {
        DayRows x = names(1);
        is(x.undo(), 0);
        is(x.count(4), 0);
        is(x.undo(), NONE);
        is(name(x, "q"), 0);
        for (int k = 0; k < 12; k++) {
            is(x.push(0, 10 * k), k);
        }
        is(x.count(6), 10);
        laid(x, 8, 30, 9, 1, 0);
        for (int k = 9; k >= 0; k--) {
            is(x.undo(), k);
            is(x.count(0), k + 2);
        }
        is(x.undo(), NONE);
        laid(x, 4, 10, 0, 0, 0);
        is(x.count(9), 2);
        is(x.push(0, 4), 2);
        undoesEach();
        undoesTaken();
    }

    private static void undoesEach() {
        DayRows x = of("rows 8;at 5 a;at 9 b;at 9 b;at 12 c;after a in 5 b");
        x.keep(0);
        long digest = x.digest();
        int[] done = {x.push(0, 7), x.take(2), x.until(9), x.cancel(5), x.clear(2)};
        is(x.count(6), done.length);
        for (int left = 4; left >= 0; left--) {
            is(x.undo(), left);
        }
        is(x.digest(), digest);
        done = new int[] {x.postpone(0, 7), x.series(2, 5, 9, 9), x.shift(0, 5), x.merge(0, 1), x.swap(1, 0),
            x.cut(12), x.rule(0, 0, 5), x.unrule(0), x.resize(2, 10)};
        is(x.count(6), done.length);
        while (x.count(6) > 0) {
            x.undo();
        }
        is(x.digest(), digest);
        is(x.same(0, 0), 1);
        is(x.same(0, 1), 1);
        text(x, "rows 8;wide 10;at 5 a;at 9 b;at 9 b;at 12 c;after a in 5 b");
        is(x.total(7), 0);
        is(x.count(9), 4);
        is(x.count(8), 1);
    }

    private static void undoesTaken() {
        DayRows x = of("at 999999990 a;at 999999995 a;after a in 5 b");
        x.take(1);
        x.keep(0);
        x.take(2);
        feed(x, "abc");
        is(x.undo(), 1);
        is(x.count(7), 3);
        is(x.count(3), 999999990);
        is(x.log(0, 0), 0);
        is(x.log(1, 0), NONE);
        is(x.named(0, 2), 1);
        is(x.total(0), 8);
        is(x.total(5), 1);
        is(x.same(0, 0), 1);
        x.back(0);
        is(x.undo(), NONE);
        DayRows lost = of("at 999999990 a;after a in 50 b");
        lost.take(1);
        is(lost.named(1, 4), 1);
        lost.undo();
        is(lost.named(1, 4), 0);
        is(lost.total(6), 0);
    }

    static void promise21() {
        DayRows x = of("at 5 a;at 7 a");
        is(x.keep(2), NONE);
        is(x.keep(-1), NONE);
        is(x.count(8), 0);
        is(x.keep(1), 2);
        is(x.count(8), 2);
        is(x.count(6), 0);
        x.take(1);
        is(x.count(6), 1);
        is(x.keep(0), 1);
        is(x.count(8), 3);
        is(x.count(6), 1);
        x.take(1);
        is(x.keep(0), 0);
        is(x.back(1), 2);
        is(x.back(0), 0);
        is(x.back(1), 2);
        is(x.total(5), 0);
    }

    static void promise22() {
        DayRows x = of("rows 8;wide 7;at 5 abc;at 7 b;after b in 3 abc");
        is(x.back(0), -2);
        is(x.back(2), NONE);
        is(x.back(-1), NONE);
        x.take(1);
        x.keep(0);
        x.take(2);
        x.cancel(2);
        name(x, "new");
        x.unrule(0);
        x.push(1, 900);
        feed(x, "zz");
        is(x.back(0), 1);
        is(x.count(7), 2);
        is(x.count(6), 0);
        is(x.undo(), NONE);
        is(x.count(3), 5);
        is(x.count(4), 2);
        is(x.count(9), 2);
        is(x.count(5), 1);
        is(x.total(5), 1);
        is(x.total(7), 0);
        is(x.log(0, 0), 0);
        is(x.log(1, 0), NONE);
        is(x.named(1, 2), 0);
        text(x, "rows 4;wide 7;at 7 b;after b in 3 abc");
        tell(x, "at 3 x");
        is(x.back(0), 1);
        is(x.letter(0, 1), 'b');
        is(x.back(1), -2);
    }

    static void promise23() {
        DayRows x = of("at 25 a;at 5 b;at 5 a;at 57 c");
        int[][] due = {{1, 1, 5, 0}, {2, 0, 5, 0}, {0, 0, 25, 2}, {3, 2, 57, 1}};
        for (int k = 0; k < 4; k++) {
            for (int what = 0; what < 4; what++) {
                is(x.next(k, what), due[k][what]);
            }
            is(x.next(k, 4), NONE);
            is(x.next(k, -1), NONE);
        }
        is(x.next(4, 0), NONE);
        is(x.next(-1, 0), NONE);
        x.take(1);
        is(x.next(0, 0), 2);
        is(x.next(3, 0), NONE);
    }

    static void promise24() {
        DayRows x = of("at 25 a;at 5 b;at 45 a;at 57 c;at 47 b");
        int[][] due = {{1, 0, 25, 2, 0}, {0, 1, 5, 0, 0}, {2, 0, 45, 0, 1}, {4, 2, 57, 1, 0}, {3, 1, 47, 0, 2}};
        for (int number = 0; number < 5; number++) {
            for (int what = 0; what < 5; what++) {
                is(x.of(number, what), due[number][what]);
            }
            is(x.of(number, 5), NONE);
            is(x.of(number, -1), NONE);
        }
        is(x.of(5, 0), NONE);
        is(x.of(-1, 0), NONE);
        x.take(1);
        is(x.of(1, 1), NONE);
    }

    static void promise25() {
        DayRows x = of("at 25 a;at 5 b;at 45 a;at 57 c;at 5 b;rows 2;wide 10");
        is(x.row(0, NONE), 4);
        is(x.row(1, NONE), 1);
        int[] first = {1, 4, 0, 2};
        for (int k = 0; k < 4; k++) {
            is(x.row(0, k), first[k]);
        }
        is(x.row(0, 4), -2);
        is(x.row(1, 0), 3);
        is(x.row(1, 1), -2);
        is(x.row(0, -2), NONE);
        is(x.row(2, NONE), NONE);
        is(x.row(2, 0), NONE);
        is(x.row(-1, 0), NONE);
        is(x.row(0, Integer.MAX_VALUE), -2);
        x.resize(64, 10);
        is(x.row(5, 0), 3);
        is(x.row(63, NONE), 0);
        is(x.row(64, NONE), NONE);
    }

    static void promise26() {
        DayRows x = of("at 0 abcxyz;at 0 a;at 0 zz");
        String word = "abcxyz";
        for (int k = 0; k < 6; k++) {
            is(x.letter(0, k), word.charAt(k));
        }
        is(x.letter(0, 6), NONE);
        is(x.letter(0, -1), NONE);
        is(x.letter(1, 0), 97);
        is(x.letter(1, 1), NONE);
        is(x.letter(2, 1), 122);
        is(name(x, "zzzzzz"), 3);
        is(name(x, "azzzzz"), 4);
        is(x.letter(3, 0), 122);
        is(x.letter(4, 0), 97);
        is(x.letter(5, 0), NONE);
        is(x.letter(-1, 0), NONE);
        is(x.letter(0, Integer.MAX_VALUE), NONE);
    }

    static void promise27() {
        DayRows x = of("at 5 a;at 999999999 b;at 3 a;at 999999990 a;after a in 40 c;after c in 60 a;after a in 70 c");
        is(x.named(0, 0), 3);
        is(x.named(0, 1), 3);
        is(x.named(0, 2), 0);
        is(x.named(0, 3), 2);
        is(x.named(0, 4), 0);
        is(x.named(2, 0), 0);
        is(x.named(2, 1), -2);
        is(x.named(2, 3), 1);
        is(x.named(1, 3), 0);
        is(x.named(0, 5), NONE);
        is(x.named(0, -1), NONE);
        is(x.named(3, 0), NONE);
        is(x.named(-1, 0), NONE);
        x.take(2);
        x.clear(2);
        x.take(1);
        is(x.named(0, 2), 3);
        is(x.named(0, 4), 0);
        is(x.named(2, 4), 2);
        is(x.named(1, 1), LAST);
    }

    static void promise28() {
        DayRows x = of("after a in 40 c;after c in 60 c");
        int[][] due = {{0, 1, 40}, {1, 1, 60}};
        for (int rule = 0; rule < 2; rule++) {
            for (int what = 0; what < 3; what++) {
                is(x.ruled(rule, what), due[rule][what]);
            }
            is(x.ruled(rule, 3), NONE);
            is(x.ruled(rule, -1), NONE);
        }
        is(x.ruled(2, 0), NONE);
        is(x.ruled(-1, 0), NONE);
    }

    static void promise29() {
        DayRows x = of("rows 2;at 5 a;at 27 b;at 27 a;at 31 c");
        is(x.log(0, 0), NONE);
        x.take(4);
        int[][] due = {{3, 2, 31, 2}, {2, 0, 27, 1}, {1, 1, 27, 4}, {0, 0, 5, 1}};
        for (int k = 0; k < 4; k++) {
            for (int what = 0; what < 4; what++) {
                is(x.log(k, what), due[k][what]);
            }
        }
        is(x.log(4, 0), NONE);
        is(x.log(-1, 0), NONE);
        is(x.log(0, 4), NONE);
        is(x.log(0, -1), NONE);
        DayRows many = of("every 3 from 0 times 50 a;at 900 a;at 901 a");
        many.take(50);
        is(many.log(49, 0), 0);
        is(many.log(50, 0), NONE);
        many.take(2);
        is(many.log(0, 0), 51);
        is(many.log(49, 0), 2);
        is(many.log(49, 2), 6);
        is(many.log(50, 0), NONE);
        many.undo();
        is(many.log(0, 0), 49);
        is(many.log(49, 0), 0);
    }

    static void promise30() {
        DayRows x = of("rows 2;at 5 a;at 27 b;at 999999999 c;after c in 9 a");
        x.cancel(1);
        x.take(3);
        int[] due = {1 + 4, 0, 1, 0, 0, 2, 1, 1};
        for (int what = 0; what < 8; what++) {
            is(x.total(what), due[what]);
        }
        is(x.total(8), NONE);
        is(x.total(-1), NONE);
        x = names(1);
        x.series(0, 5, 0, 9);
        x.resize(16, 15);
        x.clear(0);
        is(x.total(1), 9 + 9 + 7 + 3 + 1);
        is(x.total(3), 1);
        is(x.total(4), 3);
        is(x.total(7), 9);
        x.series(0, 5, 0, 2);
        x.cut(3);
        is(x.total(7), 10);
    }

    static void promise31() {
        DayRows x = new DayRows();
        int[] empty = {0, 0, 4, 0, 0, 0};
        for (int what = 0; what < 6; what++) {
            is(x.skew(what), empty[what]);
        }
        is(x.skew(6), NONE);
        is(x.skew(-1), NONE);
        x = of("at 25 a;at 15 b;at 15 a;at 68 c;at 68 a;at 68 a;at 22 c");
        int[] due = {5, 2, 2, 3, 53 / 6, 43};
        for (int what = 0; what < 6; what++) {
            is(x.skew(what), due[what]);
        }
        x = of("at 35 a;at 15 a");
        is(x.skew(0), 1);
        is(x.skew(1), 1);
        is(x.skew(4), 20);
        is(of("at 0 a;at 50 a;at 51 a").skew(5), 50);
        is(of("at 0 a;at 1 a;at 51 a").skew(5), 50);
        is(of("at 35 a").skew(4), 0);
        is(of("at 35 a").skew(5), 0);
        is(of("at 35 a").skew(3), 1);
    }

    static void promise32() {
        DayRows x = of("rows 2;at 5 a;at 15 a;at 35 a;at 40 a");
        int[] due = {1, 2, 2 + 2, 2};
        for (int k = 0; k < 4; k++) {
            is(x.looks(), due[k]);
            is(x.count(6), k);
            x.take(1);
        }
        is(x.looks(), -2);
        is(of("rows 64;wide 1;at 63 a").looks(), 64);
        is(of("rows 64;wide 1;at 64 a").looks(), 128);
    }

    static void promise33() {
        DayRows x = of("at 5 a;at 15 a;at 35 a;at 400 b;after a in 1 a;rows 64");
        is(x.lookBy(2, 10), 1 + 2 + 4 + 4);
        is(x.lookBy(4, 10), 1 + 2 + 3 + 8);
        is(x.lookBy(64, 10), 1 + 2 + 3 + 38);
        is(x.lookBy(2, 99999999), 4);
        is(x.lookBy(2, 1), 4 + 4 + 4 + 4);
        is(x.lookBy(3, 10), NONE);
        is(x.lookBy(1, 10), NONE);
        is(x.lookBy(128, 10), NONE);
        is(x.lookBy(4, 0), NONE);
        is(x.lookBy(4, 100000000), NONE);
        x.unrule(0);
        x.take(2);
        is(x.lookBy(4, 10), 3 + 8);
        is(x.lookBy(2, 10), 4 + 4);
        is(x.count(0), 2);
        is(new DayRows().lookBy(2, 1), 0);
    }

    static void promise34() {
        DayRows x = of("at 0 a;at 3 a;at 70 b");
        is(x.best(2, 0), 128);
        is(x.best(2, 1), 3);
        is(x.best(64, 0), 128);
        is(x.best(3, 0), NONE);
        is(x.best(2, 2), NONE);
        is(x.best(2, -1), NONE);
        x = of("at 0 a;at 67108864 a");
        is(x.best(2, 0), 67108864);
        is(x.best(2, 1), 3);
        is(x.best(64, 0), 67108864);
        is(x.best(64, 1), 3);
        x = of("at 0 a;at 90 b");
        is(x.best(2, 0), 128);
        is(x.best(2, 1), 2);
        x = of("at 0 a;at 80000000 b");
        is(x.best(2, 0), 67108864);
        is(new DayRows().best(64, 0), 1);
        is(new DayRows().best(64, 1), 0);
    }

    static void promise35() {
        is(new DayRows().widthNow(), 10);
        is(of("wide 77;at 5 a").widthNow(), 77);
        is(of("at 5 a;at 5 a").widthNow(), 1);
        is(of("at 5 a;at 12 a").widthNow(), 21);
        is(of("at 0 a;at 999999999 a").widthNow(), 99999999);
        is(of("at 90 a;at 91 a;at 93 a;at 190 a").widthNow(), 3);
        is(of("at 0 a;at 33333333 a").widthNow(), 99999999);
        is(of("at 0 a;at 33333332 a").widthNow(), 99999996);
        is(of("at 0 a;at 1 a;at 3 a;at 100 a").widthNow(), 3);
        is(of("at 0 a;at 10 a;at 30 a;at 70 a").widthNow(), 69);
        is(of("at 0 a;at 1 a;at 2 a;at 9 a").widthNow(), 3);
        is(of("at 0 a;at 2 a;at 4 a;at 12 a").widthNow(), 12);
        is(of("every 100 from 0 times 10 a;at 1090 a").widthNow(), 300);
        is(of("every 100 from 0 times 9 a;at 990 a").widthNow(), 330);
    }

    static void promise36() {
        DayRows x = of("rows 2;at 5 a;at 27 b;after a in 7 c;after c in 2 b");
        long digest = x.digest();
        int[][] due = {{0, 0, 5, 2, 1}, {2, 2, 12, 2, 3}, {3, 1, 14, 1, 4}, {1, 1, 27, 0, 6}};
        for (int n = 1; n <= 4; n++) {
            for (int what = 0; what < 5; what++) {
                is(x.ahead(n, what), due[n - 1][what]);
            }
            is(x.ahead(n, 5), NONE);
            is(x.ahead(n, -1), NONE);
        }
        is(x.ahead(5, 0), -2);
        is(x.ahead(5, 5), NONE);
        is(x.ahead(0, 0), NONE);
        is(x.ahead(301, 0), NONE);
        is(x.digest(), digest);
        is(x.count(3), 0);
        is(x.total(0), 0);
        x.take(2);
        is(x.ahead(1, 4), 1);
        is(x.ahead(2, 4), 3);
        DayRows endless = of("at 0 a;after a in 10 a");
        is(endless.ahead(300, 0), 299);
        is(endless.ahead(300, 2), 2990);
        is(endless.ahead(300, 4), 1 + 299 * 2);
        DayRows shrinks = of("rows 8;at 0 a;at 10 a;at 20 a;at 30 a;at 40 a;at 90 a");
        is(shrinks.ahead(4, 4), 1 + 2 + 2 + 1);
        is(shrinks.ahead(6, 4), 1 + 2 + 2 + 1 + 1 + 2);
    }

    static void promise37() {
        DayRows x = of("at 5 a;at 27 b;at 27 a;at 999999999 b");
        is(x.between(5, 27), 1);
        is(x.between(5, 28), 3);
        is(x.between(6, 27), 0);
        is(x.between(27, 28), 2);
        is(x.between(0, 1000000000), 4);
        is(x.between(0, LAST), 3);
        is(x.between(LAST, 1000000000), 1);
        is(x.between(5, 5), NONE);
        is(x.between(6, 5), NONE);
        is(x.between(-1, 5), NONE);
        is(x.between(0, 1000000001), NONE);
        is(x.between(1000000000, 1000000000), NONE);
    }

    static void promise38() {
        DayRows x = of("at 5 a;at 9 b;at 27 b;at 27 a;at 31 c;at 999999999 b");
        is(x.crowd(1, 0), 2);
        is(x.crowd(1, 1), 27);
        is(x.crowd(4, 0), 2);
        is(x.crowd(5, 0), 3);
        is(x.crowd(5, 1), 27);
        is(x.crowd(22, 0), 3);
        is(x.crowd(23, 0), 4);
        is(x.crowd(23, 1), 5);
        is(x.crowd(LAST, 0), 6);
        is(x.crowd(LAST - 5, 0), 5);
        is(of("at 0 a;at 999999998 a").crowd(LAST, 0), 2);
        is(of("at 7 a;at 20 a").crowd(5, 1), 7);
        is(x.crowd(0, 0), NONE);
        is(x.crowd(LAST + 1, 0), NONE);
        is(x.crowd(5, 2), NONE);
        is(x.crowd(5, -1), NONE);
        is(new DayRows().crowd(5, 0), 0);
        is(new DayRows().crowd(5, 1), -2);
        is(new DayRows().crowd(5, 2), NONE);
    }

    static void promise39() {
        DayRows x = of("at 5 a;at 9 b;at 20 b;at 30 a;at 40 c;after c in 1 c");
        is(x.busiest(1, 0), 0);
        is(x.busiest(1, 1), 1);
        is(x.busiest(2, 0), 0);
        is(x.busiest(3, 0), 1);
        is(x.busiest(3, 1), 2);
        is(x.busiest(4, 0), 0);
        is(x.busiest(7, 0), 2);
        is(x.busiest(300, 1), 296);
        is(x.busiest(0, 0), NONE);
        is(x.busiest(301, 0), NONE);
        is(x.busiest(5, 2), NONE);
        is(x.busiest(5, -1), NONE);
        is(x.count(0), 5);
        x.unrule(0);
        is(x.busiest(300, 0), 0);
        is(x.busiest(300, 1), 2);
        x.take(4);
        is(x.busiest(300, 0), 2);
        is(x.busiest(300, 1), 1);
        x.take(1);
        is(x.busiest(5, 0), -2);
        is(x.busiest(5, 2), NONE);
    }

    static void promise40() {
        DayRows x = of("after a in 5 b;after b in 6 c;after d in 7 d");
        int[][] due = {{0, 1, 1, 0}, {0, 0, 1, 0}, {0, 0, 0, 0}, {0, 0, 0, 1}};
        for (int name = 0; name < 4; name++) {
            for (int other = 0; other < 4; other++) {
                is(x.leads(name, other), due[name][other]);
            }
        }
        is(x.leads(4, 0), NONE);
        is(x.leads(0, 4), NONE);
        is(x.leads(-1, 0), NONE);
        x.rule(2, 0, 9);
        is(x.leads(0, 0), 1);
        is(x.leads(2, 1), 1);
        is(x.leads(3, 0), 0);
    }

    static void promise41() {
        DayRows x = of("after a in 50 c;after a in 5 b;after b in 6 c;after c in 7 b;after b in 4 d");
        is(x.soonest(0, 1), 11);
        is(x.soonest(0, 2), 5);
        is(x.soonest(0, 3), 9);
        is(x.soonest(1, 1), 13);
        is(x.soonest(2, 2), 13);
        is(x.soonest(0, 0), -2);
        is(x.soonest(3, 3), -2);
        is(x.soonest(4, 0), NONE);
        is(x.soonest(0, -1), NONE);
        DayRows chain = names(13);
        for (int rule = 0; rule < 12; rule++) {
            chain.rule(11 - rule, 12 - rule, 999999);
        }
        is(chain.soonest(0, 12), 12 * 999999);
        is(chain.soonest(12, 0), -2);
        chain.unrule(3);
        is(chain.soonest(0, 12), -2);
        is(chain.soonest(0, 8), 8 * 999999);
    }

    static void promise42() {
        DayRows x = of("at 5 a;at 12 a;at 19 b;at 20 b;at 9999 a;at 10000 a");
        is(x.day(0), 1);
        is(x.day(1), 2);
        is(x.day(2), 1);
        is(x.day(3), 0);
        is(x.day(999), 1);
        is(x.day(1000), NONE);
        is(x.day(-1), NONE);
        x.take(2);
        is(x.day(0), 1);
        is(x.day(1), 1);
        is(x.day(999), 1);
        is(x.day(998), 1);
        x.resize(4, 99999999);
        is(x.day(0), 4);
        is(x.day(999), 0);
    }

    static void promise43() {
        DayRows x = of("at 5 a;at 12 a;at 12 b;at 30 b");
        is(x.free(5, 0), 0);
        is(x.free(6, 0), 6);
        is(x.free(6, 6), 6);
        is(x.free(6, 7), 13);
        is(x.free(7, 0), 13);
        is(x.free(17, 0), 13);
        is(x.free(18, 0), 31);
        is(x.free(1, 12), 13);
        is(x.free(1, 11), 11);
        is(x.free(LAST - 30, 0), 31);
        is(x.free(LAST - 29, 0), -2);
        is(x.free(1, LAST), LAST);
        is(x.free(2, LAST), -2);
        is(x.free(0, 5), NONE);
        is(x.free(LAST + 1, 5), NONE);
        is(x.free(5, -1), NONE);
        is(x.free(5, LAST + 1), NONE);
        is(of("at 999999999 a").free(1, LAST), -2);
        is(of("at 999999999 a").free(LAST, 0), 0);
        is(of("at 0 a").free(LAST, 0), 1);
        is(new DayRows().free(LAST, 1), 1);
        is(new DayRows().free(LAST, 2), -2);
    }

    static void promise44() {
        DayRows x = of("at 50 a;at 30 b;at 25 a;at 10 a;at 5 c");
        is(x.pair(0), 5);
        is(x.pair(1), 4);
        is(x.pair(2), NONE);
        is(x.pair(-1), NONE);
        is(of("at 0 a;at 9 a;at 15 a").pair(0), 6);
        is(of("at 0 a;at 9 a;at 15 a").pair(1), 1);
        x.take(1);
        is(x.pair(0), 5);
        is(x.pair(1), 2);
        x.take(1);
        x.push(0, 25);
        is(x.pair(0), 0);
        is(x.pair(1), 2);
        x.take(1);
        is(x.pair(0), 5);
        x.take(1);
        is(x.pair(0), 20);
        is(x.pair(1), 1);
        x.take(1);
        is(x.pair(0), -2);
        is(x.pair(1), -2);
        is(x.pair(2), NONE);
    }

    static void promise45() {
        DayRows x = of("at 5 a;at 9 b;at 20 c;after a in 7 b;after b in 30 b");
        is(x.when(0, 1), 5);
        is(x.when(0, 2), -2);
        is(x.when(1, 1), 9);
        is(x.when(1, 2), 12);
        is(x.when(1, 3), 39);
        is(x.when(1, 99), 9 + 30 * 49);
        is(x.when(2, 1), 20);
        is(x.when(3, 1), NONE);
        is(x.when(-1, 1), NONE);
        is(x.when(0, 0), NONE);
        is(x.when(0, 100), NONE);
        is(x.count(3), 0);
        DayRows endless = of("every 1 from 0 times 50 a;at 700 b;after a in 10 a");
        is(endless.when(1, 1), -2);
        endless.postpone(50, 54);
        is(endless.when(1, 1), 54);
        DayRows edge = of("at 0 a;at 300 b;after a in 1 a");
        is(edge.when(1, 1), -2);
        edge.postpone(1, 299);
        is(edge.when(1, 1), 299);
    }

    static void promise46() {
        DayRows x = of("at 5 a;at 9 b;after a in 7 b");
        is(x.same(0, 0), -2);
        is(x.same(0, 2), NONE);
        is(x.same(2, 0), NONE);
        is(x.same(-1, 0), NONE);
        x.keep(0);
        is(x.same(0, 0), 1);
        is(x.same(0, 1), 1);
        is(x.same(1, 0), -2);
        is(x.same(0, -1), NONE);
        x.postpone(0, 6);
        is(x.same(0, 0), 0);
        is(x.same(0, 1), 1);
        x.postpone(0, 5);
        is(x.same(0, 0), 1);
        x.merge(0, 1);
        is(x.same(0, 0), 0);
        x.undo();
        x.push(1, 70);
        is(x.same(0, 0), 0);
        x.cancel(2);
        is(x.same(0, 0), 1);
        x.cancel(1);
        x.push(1, 9);
        is(x.same(0, 0), 0);
        x.rule(0, 1, 7);
        is(x.same(0, 1), 0);
        x.unrule(0);
        is(x.same(0, 1), 1);
        x.unrule(0);
        x.rule(0, 1, 8);
        is(x.same(0, 1), 0);
        x.undo();
        x.rule(1, 1, 7);
        is(x.same(0, 1), 0);
        x.undo();
        x.rule(0, 0, 7);
        is(x.same(0, 1), 0);
    }

    static void promise47() {
        DayRows x = new DayRows();
        text(x, "rows 4;wide 10");
        is(x.told(13), '0');
        is(x.told(14), -2);
        is(x.told(Integer.MAX_VALUE), -2);
        is(x.told(-2), NONE);
        is(x.told(Integer.MIN_VALUE), NONE);
        tell(x, "rows 64 ; wide 99999999; at 999999999 abcdef; at 0 at; after abcdef in 999999 at; after at in 10 abcdef");
        text(x, "rows 64;wide 99999999;at 0 at;at 999999999 abcdef;after abcdef in 999999 at;after at in 10 abcdef");
        x.take(1);
        text(x, "rows 32;wide 99999999;at 10 abcdef;at 999999999 abcdef;after abcdef in 999999 at;after at in 10 abcdef");
        is(full().told(NONE), "rows 64;wide 3".length() + ";at 0 a".length() * 10 + ";at 10 a".length() * 90 + ";at 100 a".length() * 100
            + ";after b in 1 b".length());
    }

    static void promise48() {
        DayRows x = of("at 50 a;at 30 b;at 20 a;at 10 a");
        is(x.share(1), 10);
        is(x.share(25), 10);
        is(x.share(26), 20);
        is(x.share(50), 20);
        is(x.share(51), 30);
        is(x.share(75), 30);
        is(x.share(76), 50);
        is(x.share(100), 50);
        is(x.share(0), NONE);
        is(x.share(101), NONE);
        is(of("at 7 a").share(1), 7);
        is(of("at 7 a").share(100), 7);
        is(new DayRows().share(1), -2);
        is(new DayRows().share(0), NONE);
        is(full().share(1), 1);
        is(full().share(99), 197);
    }

    static void promise49() {
        DayRows x = of("at 5 a;at 15 a;at 35 a;at 85 b");
        is(x.bestRows(10, 0), 2);
        is(x.bestRows(10, 1), 1 + 2 + 4 + 4);
        is(x.bestRows(20, 0), 2);
        is(x.bestRows(20, 1), 1 + 1 + 2 + 4);
        is(x.bestRows(99999999, 0), 2);
        is(x.bestRows(1, 0), 2);
        is(x.bestRows(0, 0), NONE);
        is(x.bestRows(100000000, 0), NONE);
        is(x.bestRows(10, 2), NONE);
        is(x.bestRows(10, -1), NONE);
        is(of("at 2 a;at 4 a;at 8 a").bestRows(1, 0), 8);
        is(of("at 2 a;at 4 a;at 8 a").bestRows(1, 1), 3 + 3 + 5);
        is(of("at 63 a").bestRows(1, 0), 2);
        is(of("at 2 a").bestRows(1, 0), 4);
        is(of("at 2 a").bestRows(1, 1), 3);
        is(of("at 0 a;at 40 a;at 80 a").bestRows(1, 0), 2);
        is(new DayRows().bestRows(5, 0), 2);
        is(new DayRows().bestRows(5, 1), 0);
    }

    static void promise50() {
        DayRows x = of("at 5 a;at 15 a;at 35 a;at 85 b;at 95 b");
        int[][] due = {{3, 1, 0}, {2, 0, 1}, {2, 0, 5}};
        for (int what = 0; what < 3; what++) {
            is(x.skewBy(2, 10, what), due[0][what]);
            is(x.skewBy(4, 10, what), due[1][what]);
            is(x.skewBy(8, 10, what), due[2][what]);
            is(x.skewBy(64, 99999999, what), new int[] {5, 0, 63}[what]);
            is(new DayRows().skewBy(16, 5, what), new int[] {0, 0, 16}[what]);
        }
        is(x.skewBy(2, 10, 3), NONE);
        is(x.skewBy(2, 10, -1), NONE);
        is(x.skewBy(5, 10, 0), NONE);
        is(x.skewBy(128, 10, 0), NONE);
        is(x.skewBy(2, 0, 0), NONE);
        is(x.skewBy(2, 100000000, 0), NONE);
    }

    static void promise51() {
        DayRows x = of("at 50 a;at 30 b;at 30 b;at 20 a;at 60 a;at 10 c");
        is(x.longest(0), 2);
        is(x.longest(1), 1);
        x.push(0, 60);
        is(x.longest(0), 3);
        is(x.longest(1), 0);
        x.cancel(4);
        is(x.longest(1), 1);
        is(x.longest(2), NONE);
        is(x.longest(-1), NONE);
        is(of("at 5 a").longest(0), 1);
        is(of("at 5 a;at 4 b").longest(1), 1);
        is(new DayRows().longest(0), 0);
        is(new DayRows().longest(1), -2);
        is(new DayRows().longest(2), NONE);
    }

    private static void way(DayRows x, int name, int other, int... rules) {
        is(x.way(name, other, NONE), rules.length);
        for (int k = 0; k < rules.length; k++) {
            is(x.way(name, other, k), rules[k]);
        }
        is(x.way(name, other, rules.length), -2);
    }

    static void promise52() {
        DayRows x = of("after a in 9 d;after a in 3 b;after a in 3 b;after b in 6 d;after b in 6 d;after a in 9 d;"
            + "after d in 2 a");
        way(x, 0, 1, 0);
        way(x, 0, 2, 1);
        way(x, 2, 1, 3);
        way(x, 1, 1, 6, 0);
        way(x, 0, 0, 0, 6);
        way(x, 2, 2, 3, 6, 1);
        is(x.way(0, 3, 0), NONE);
        is(x.way(3, 0, NONE), NONE);
        is(x.way(0, 1, -2), NONE);
        x.unrule(0);
        x.unrule(4);
        way(x, 0, 1, 0, 2);
        x.rule(0, 2, 1);
        is(x.soonest(0, 2), 1);
        way(x, 0, 2, 5);
        way(x, 0, 1, 5, 2);
        x.unrule(4);
        is(x.way(1, 1, NONE), -2);
        is(x.way(1, 1, 0), -2);
        is(x.way(1, 1, -2), NONE);
        DayRows ways = of("after b in 2 z;after c in 2 z;after a in 1 c;after a in 1 b;after z in 5 z");
        way(ways, 3, 1, 2, 1);
        way(ways, 1, 1, 4);
    }

    static void promise53() {
        DayRows x = of("rows 2;at 5 a;at 27 b;at 30 a;after a in 7 c;after c in 2 b");
        int[] due = {4, 1 + 2 + 1 + 2, 1};
        for (int what = 0; what < 3; what++) {
            is(x.by(27, what), due[what]);
            is(x.by(4, what), what < 2 ? 0 : 3);
        }
        is(x.by(11, 0), 1);
        is(x.by(12, 0), 2);
        is(x.by(LAST, 0), 7);
        is(x.by(LAST, 2), 0);
        is(x.by(-1, 0), NONE);
        is(x.by(LAST + 1, 0), NONE);
        is(x.by(5, 3), NONE);
        is(x.by(5, -1), NONE);
        is(x.count(0), 3);
        is(x.count(3), 0);
        x.take(2);
        is(x.by(27, 1), 3);
        DayRows endless = of("at 0 a;after a in 1 a");
        is(endless.by(298, 0), 299);
        is(endless.by(LAST, 0), 300);
        is(endless.by(LAST, 2), 1);
    }

    static void promise54() {
        DayRows x = new DayRows();
        is(x.digest(), 17);
        x = of("at 50 a;at 30 b");
        long due = 17;
        for (int part : new int[] {1, 1, 30, 0, 0, 50}) {
            due = due * 31 + part;
        }
        is(x.digest(), due);
        x.cancel(0);
        is(x.digest(), ((17L * 31 + 1) * 31 + 1) * 31 + 30);
        due = 17;
        for (int k = 0; k < 200; k++) {
            due = ((due * 31 + k) * 31) * 31 + k;
        }
        is(full().digest(), due);
    }

    static void promise55() {
        DayRows x = of("rows 2;wide 77;at 50 a;at 30 b;after a in 5 c");
        x.take(1);
        x.keep(1);
        x.push(2, 60);
        x.push(2, 70);
        feed(x, "abcde");
        int[] due = {3, 2, 77, 30, 3, 1, 3, 5, 2, 4};
        for (int what = 0; what < 10; what++) {
            is(x.count(what), due[what]);
        }
        is(x.count(10), NONE);
        is(x.count(-1), NONE);
        is(x.count(Integer.MAX_VALUE), NONE);
        x.keep(0);
        is(x.count(8), 3);
    }
}
