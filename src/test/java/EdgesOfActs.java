/** The edges that the document names for the calls by which something happens, promises 1 to 22. */
final class EdgesOfActs extends Checks {
    private EdgesOfActs() { }

    @Edge(in = "Promise 1", says = "No NAMES, nothing WAITS.")
    static void aNewObjectHasNothing() {
        is(DayRows.NONE, -1);
        DayRows x = new DayRows();
        for (int what = 0; what < 10; what++) {
            is(x.count(what), what == 1 ? 4 : what == 2 ? 10 : 0);
        }
        is(x.letter(0, 0), NONE);
        is(x.next(0, 0), NONE);
        is(x.of(0, 0), NONE);
        is(x.take(1), -2);
        is(x.cut(0), -2);
        is(x.clear(0), NONE);
        is(x.shift(0, 1), NONE);
        is(x.looks(), -2);
    }

    @Edge(in = "Promise 2", says = "Twenty bytes come behind the TAPE, of each number the highest first")
    static void theHighestByteFirst() {
        DayRows x = new DayRows();
        is(x.feed(0x61742035, 0x20616263, 0x6465663B, 0x61742037, 0x20617879), 20);
        is(x.feed(0x3B617420, 0x3920617A, 0x20202020, 0x20202020, 0x20202020), 40);
        is(x.tell(), 3);
        text(x, "rows 4;wide 10;at 5 abcdef;at 7 axy;at 9 az");
        is(x.feed(0xE1742035, 0, 0, 0, 0), 20);
        is(x.tell(), -2 - 1);
        is(x.feed(0x61742035, 0x20F12020, LEAST_INT, MOST_INT, -1), 20);
        is(x.tell(), -2 - 41);
    }

    @Edge(in = "Promise 2", says = "NONE, and none comes, if it would have more than 400")
    static void theTapeHasFourHundredBytes() {
        DayRows x = new DayRows();
        for (int n = 20; n <= 400; n += 20) {
            is(x.feed(0x20202020, 0x20202020, 0x20202020, 0x20202020, 0x20202020), n);
        }
        is(x.feed(0, 0, 0, 0, 0), NONE);
        is(x.count(7), 400);
        is(x.end(381), 381);
        is(x.feed(0, 0, 0, 0, 0), NONE);
        is(x.count(7), 381);
        is(x.end(380), 380);
        is(x.feed(0x20202020, 0x20202020, 0x20202020, 0x20202020, 0x20202061), 400);
        is(x.tell(), -2 - 8 * 399 - 1);
    }

    @Edge(in = "Promise 3", says = "The TAPE has its first n bytes alone: n")
    static void theFirstBytesStay() {
        DayRows x = new DayRows();
        is(x.end(0), 0);
        is(x.feed(0x61626364, 0x65666768, 0, 0, 0), 20);
        is(x.end(20), 20);
        is(x.end(6), 6);
        is(x.end(6), 6);
        is(x.count(7), 6);
        is(x.name(), 0);
        is(x.letter(0, 5), 'f');
        is(x.feed(0x61626364, 0, 0, 0, 0), 20);
        is(x.end(0), 0);
        is(x.name(), -2);
        x.feed(0x71000000, 0, 0, 0, 0);
        is(x.end(1), 1);
        is(x.feed(0x72000000, 0, 0, 0, 0), 21);
        is(x.end(2), 2);
        is(x.name(), 1);
        is(x.letter(1, 0), 'q');
        is(x.letter(1, 1), 'r');
    }

    @Edge(in = "Promise 3", says = "NONE, and nothing happens, if it has not so many, or n is below 0")
    static void notMoreBytesThanThereAre() {
        DayRows x = new DayRows();
        is(x.end(1), NONE);
        is(x.end(-1), NONE);
        x.feed(0x61626364, 0, 0, 0, 0);
        String before = state(x);
        is(x.end(21), NONE);
        is(x.end(-1), NONE);
        is(x.end(MOST_INT), NONE);
        is(x.end(LEAST_INT), NONE);
        unchanged(x, before);
        is(x.end(4), 4);
        is(x.end(5), NONE);
        is(x.name(), 0);
        is(x.letter(0, 3), 'd');
    }

    @Edge(in = "Promise 4", says = "The TAPE, which is empty then, tells a CALENDAR in place of the one there was (all as at first ahead of it; "
        + "nothing can be UNDONE; SHELVES stay): how many WAIT")
    static void tellBeginsAnew() {
        DayRows x = of("rows 2;every 9 from 7 times 5 b;after b in 999999 c;after b in 5 c");
        is(x.take(3), 3);
        is(x.cut(50), 2);
        is(x.keep(1), 4);
        is(x.count(6), 2);
        is(x.ahead(4, 2), 34);
        is(tell(x, "at 4 q"), 1);
        int[] counts = {1, 4, 10, 0, 1, 0, 0, 0, 2, 1};
        for (int what = 0; what < 10; what++) {
            is(x.count(what), counts[what]);
        }
        for (int what = 0; what < 8; what++) {
            is(x.total(what), 0);
        }
        is(x.undo(), NONE);
        is(x.log(0, 0), NONE);
        is(x.named(0, 2), 0);
        is(x.next(0, 0), 0);
        is(x.take(1), 1);
        is(x.named(0, 2), 1);
        is(x.log(0, 0), 0);
        is(x.log(1, 0), NONE);
        is(tell(x, "rows 4"), 0);
        is(x.count(4), 0);
        is(x.back(1), 4);
        is(x.count(3), 16);
        is(x.letter(1, 0), 'c');
    }

    @Edge(in = "Promise 4", says = "all as at first ahead of it")
    static void tellKeepsNothingOfWhatWas() {
        DayRows x = of("rows 64;wide 8;at 999999999 b;after b in 5 b");
        is(x.by(LAST, 0), 1);
        is(x.take(1), 1);
        is(x.named(0, 4), 1);
        is(x.by(LAST, 0), 0);
        is(tell(x, "at 3 c"), 1);
        laid(x, 4, 10, 0, 0, 0);
        is(x.count(3), 0);
        is(x.count(5), 0);
        is(x.count(9), 1);
        is(x.named(0, 2), 0);
        is(x.named(0, 4), 0);
        is(x.total(0), 0);
        is(x.total(6), 0);
    }

    @Edge(in = "Promise 4", says = "-2 - its FAULT, and but for the TAPE nothing happens")
    static void aFaultTellsNothing() {
        DayRows x = of("rows 2;every 9 from 7 times 5 b;after b in 5 c");
        x.take(1);
        x.keep(0);
        String before = state(x);
        is(tell(x, "rows 64;at 1 d;after d in 5 d;wide 7;at 5 ab"), 2);
        is(x.back(0), 5);
        x.push(0, 20);
        before = state(x);
        feed(x, "rows 64;at 1 d;after d in 5 d;wide 7;at 5 A");
        is(x.tell(), -2 - 8 * 42 - 1);
        unchanged(x, before);
        is(x.tell(), -3);
        is(x.undo(), 0);
        is(x.count(0), 5);
        is(x.ruled(0, 2), 5);
        is(x.letter(0, 0), 'b');
        is(x.letter(2, 0), NONE);
    }

    @Edge(in = "Promise 5", says = "The TAPE (a NAME alone, without blanks; it is empty then): its number, also of a new one")
    static void aNameAlone() {
        DayRows x = new DayRows();
        is(name(x, "abcdef"), 0);
        is(x.count(7), 0);
        is(name(x, "b"), 1);
        is(name(x, "abcdef"), 0);
        is(name(x, "abcde"), 2);
        is(name(x, "bb"), 3);
        is(x.count(4), 4);
        is(x.count(7), 0);
    }

    @Edge(in = "Promise 5", says = "-2: it is none")
    static void noName() {
        DayRows x = names(1);
        String before = state(x);
        for (String bad : new String[] {"", " ", "a ", " a", "a b", "abcdefg", "A", "aB", "a1", "1", "`", "{", "\0", "a\0",
            "\u00e1", "a;", "a".repeat(400)}) {
            feed(x, bad);
            is(x.name(), -2);
            is(x.count(7), 0);
        }
        unchanged(x, before);
    }

    @Edge(in = "Promise 5", says = "-3: there are 16 others")
    static void sixteenOthers() {
        DayRows x = names(16);
        is(x.keep(0), 0);
        String before = state(x);
        is(name(x, "q"), -3);
        is(x.count(7), 0);
        is(name(x, "aa"), -3);
        is(name(x, "Q"), -2);
        is(name(x, "abcdefg"), -2);
        is(name(x, "p"), 15);
        unchanged(x, before);
        is(x.undo(), 9);
        is(name(x, "q"), 15);
    }

    @Edge(in = "Promise 6", says = "A THING of a NAME comes, DUE at an HOUR: its NUMBER")
    static void pushAtTheEdgesOfHours() {
        DayRows x = names(2);
        is(x.push(1, 0), 0);
        is(x.push(0, LAST), 1);
        is(x.of(0, 1), 1);
        is(x.of(1, 2), LAST);
        is(x.count(6), 4);
    }

    @Edge(in = "Promise 6", says = "NONE, and nothing happens, without these")
    static void pushWithoutNameOrHour() {
        DayRows x = names(2);
        String before = state(x);
        is(x.push(2, 5), NONE);
        is(x.push(-1, 5), NONE);
        is(x.push(MOST_INT, 5), NONE);
        is(x.push(LEAST_INT, 5), NONE);
        is(x.push(0, -1), NONE);
        is(x.push(0, LAST + 1), NONE);
        is(x.push(0, LEAST_INT), NONE);
        is(x.push(0, MOST_INT), NONE);
        unchanged(x, before);
    }

    @Edge(in = "Promise 6", says = "-2: it would be ahead of NOW")
    static void pushAheadOfNow() {
        DayRows x = of("at 9 a");
        is(x.take(1), 1);
        String before = state(x);
        is(x.push(0, 8), -2);
        is(x.push(0, 0), -2);
        unchanged(x, before);
        is(x.push(0, 9), 1);
    }

    @Edge(in = "Promise 6", says = "-3: 200 WAIT")
    static void pushWithTwoHundred() {
        DayRows x = full();
        String before = state(x);
        is(x.push(0, 500), -3);
        is(x.push(0, 0), -3);
        unchanged(x, before);
        is(x.cancel(7), 199);
        is(x.push(0, 500), 200);
        is(x.push(0, 500), -3);
        is(x.take(8), 8);
        is(x.series(0, 1, 400, 8), 201);
        is(x.push(0, 6), -2);
        is(x.push(0, 8), -3);
    }

    @Edge(in = "Promise 7", says = "n THINGS (1 to 99) are TAKEN, one by one, as long as some WAIT: how many")
    static void takeFromOneToNinetyNine() {
        DayRows x = of("every 1 from 0 times 50 a;every 1 from 0 times 50 a");
        is(x.take(1), 1);
        is(x.take(99), 99);
        is(x.count(0), 0);
        DayRows fewer = of("every 1 from 0 times 3 a;at 1 a;after a in 5 b");
        is(fewer.take(99), 8);
        is(fewer.count(0), 0);
        is(fewer.count(6), 1);
        DayRows endless = of("at 0 a;after a in 5 a");
        is(endless.take(99), 99);
        is(endless.count(3), 98 * 5);
    }

    @Edge(in = "Promise 7", says = "NONE, and nothing happens, for another n")
    static void takeAnotherN() {
        DayRows x = of("every 1 from 0 times 50 a;every 1 from 0 times 50 a");
        String before = state(x);
        is(x.take(0), NONE);
        is(x.take(100), NONE);
        is(x.take(-1), NONE);
        is(x.take(LEAST_INT), NONE);
        is(x.take(MOST_INT), NONE);
        unchanged(x, before);
    }

    @Edge(in = "Promise 7", says = "-2: none WAITS")
    static void takeOfNone() {
        DayRows x = names(1);
        String before = state(x);
        is(x.take(1), -2);
        is(x.take(99), -2);
        unchanged(x, before);
        x.push(0, 5);
        is(x.take(2), 1);
        is(x.take(1), -2);
    }

    @Edge(in = "Promise 8", says = "All that are DUE at an HOUR (0 to 999999999), or earlier, are TAKEN one by one (what they bring, too; 999 at the most): how many")
    static void untilAtItsEdges() {
        DayRows x = of("at 0 a;at 5 a;at 6 b;after a in 5 b");
        is(x.until(0), 1);
        is(x.until(5), 2);
        hours(x, 6, 10);
        is(x.until(LAST), 2);
        is(x.count(6), 3);
        DayRows endless = of("at 0 a;after a in 1 a");
        is(endless.until(997), 998);
        is(endless.undo(), 0);
        is(endless.until(998), 999);
        is(endless.undo(), 0);
        is(endless.until(999), 999);
        is(endless.count(3), 998);
        is(endless.until(999), 1);
        DayRows last = of("at 999999999 a");
        is(last.until(LAST - 1), -2);
        is(last.until(LAST), 1);
    }

    @Edge(in = "Promise 8", says = "NONE, and nothing happens, for others")
    static void untilAnotherHour() {
        DayRows x = of("at 0 a");
        String before = state(x);
        is(x.until(-1), NONE);
        is(x.until(LAST + 1), NONE);
        is(x.until(LEAST_INT), NONE);
        is(x.until(MOST_INT), NONE);
        unchanged(x, before);
    }

    @Edge(in = "Promise 8", says = "-2: there is none")
    static void untilOfNone() {
        DayRows x = of("at 5 a;at 7 a");
        String before = state(x);
        is(x.until(4), -2);
        is(x.until(0), -2);
        unchanged(x, before);
        is(x.until(5), 1);
        is(x.until(6), -2);
        is(x.until(0), -2);
        is(new DayRows().until(LAST), -2);
    }

    @Edge(in = "Promise 9", says = "The THING of a NUMBER that WAITS goes: how many WAIT")
    static void cancelFirstAndLast() {
        DayRows x = full();
        is(x.cancel(199), 199);
        is(x.cancel(0), 198);
        is(x.cancel(100), 197);
        is(x.next(0, 0), 1);
        is(x.next(196, 0), 198);
        is(x.of(101, 0), 99);
        is(x.total(7), 3);
        DayRows one = of("at 5 a");
        is(one.cancel(0), 0);
        is(one.digest(), 17);
    }

    @Edge(in = "Promise 9", says = "NONE, and nothing happens, if it does not")
    static void cancelOfOneThatDoesNotWait() {
        DayRows x = of("at 5 a;at 6 a;at 7 a;at 8 a");
        x.take(1);
        x.cancel(2);
        String before = state(x);
        for (int number : new int[] {0, 2, 4, -1, LEAST_INT, MOST_INT}) {
            is(x.cancel(number), NONE);
        }
        unchanged(x, before);
    }

    @Edge(in = "Promise 10", says = "All THINGS of a NAME go, those AHEAD first: how many")
    static void clearGoesAheadFirst() {
        DayRows x = of("rows 8;at 90 a;at 10 b;at 12 b;at 20 a;at 30 b");
        is(x.clear(0), 2);
        laid(x, 4, 30, 3, 0, 1);
        is(x.clear(1), 3);
        laid(x, 2, 30, 3 + 1, 0, 2);
        is(x.total(7), 5);
        is(x.count(6), 2);
        is(full().clear(0), 200);
        DayRows order = of("rows 8;at 10 a;at 0 a;at 20 b;at 50 b");
        is(order.clear(0), 2);
        laid(order, 4, 60, 3, 0, 1);
    }

    @Edge(in = "Promise 10", says = "NONE, and nothing happens, without that NAME")
    static void clearWithoutName() {
        DayRows x = of("at 5 a;at 6 b");
        String before = state(x);
        for (int name : new int[] {2, -1, 16, LEAST_INT, MOST_INT}) {
            is(x.clear(name), NONE);
        }
        unchanged(x, before);
    }

    @Edge(in = "Promise 10", says = "-2: none WAITS")
    static void clearOfNone() {
        DayRows x = of("at 5 a;at 6 b;after b in 5 c");
        x.take(1);
        String before = state(x);
        is(x.clear(0), -2);
        is(x.clear(2), -2);
        unchanged(x, before);
        is(x.clear(1), 1);
        is(x.clear(1), -2);
    }

    @Edge(in = "Promise 11", says = "A THING that WAITS is DUE at another HOUR (its NUMBER stays; it goes, and comes): at which it was")
    static void postponeGoesAndComes() {
        DayRows x = of("at 5 a;at 7 b;at 9 a");
        is(x.postpone(2, 0), 9);
        is(x.postpone(0, LAST), 5);
        order(x, 2, 1, 0);
        is(x.count(9), 3);
        is(x.total(7), 0);
        is(x.take(1), 1);
        is(x.postpone(1, 0), 7);
        DayRows shrinks = of("at 5 a;rows 8");
        is(shrinks.postpone(0, 6), 5);
        laid(shrinks, 4, 10, 1, 0, 1);
        DayRows grows = of("every 5 from 0 times 5 a;rows 2;wide 3");
        is(grows.postpone(4, 21), 20);
        laid(grows, 4, 15, 5 + 5 + 5, 1, 0);
    }

    @Edge(in = "Promise 11", says = "NONE, and nothing happens, without these")
    static void postponeWithoutThese() {
        DayRows x = of("at 5 a;at 7 b;at 9 a");
        x.take(1);
        String before = state(x);
        is(x.postpone(0, 50), NONE);
        is(x.postpone(3, 50), NONE);
        is(x.postpone(-1, 50), NONE);
        is(x.postpone(LEAST_INT, 50), NONE);
        is(x.postpone(MOST_INT, 50), NONE);
        is(x.postpone(1, -1), NONE);
        is(x.postpone(1, LAST + 1), NONE);
        is(x.postpone(1, LEAST_INT), NONE);
        is(x.postpone(1, MOST_INT), NONE);
        unchanged(x, before);
    }

    @Edge(in = "Promise 11", says = "-2: it would be ahead of NOW")
    static void postponeAheadOfNow() {
        DayRows x = of("at 5 a;at 7 b;at 9 a");
        x.take(1);
        String before = state(x);
        is(x.postpone(2, 4), -2);
        is(x.postpone(2, 0), -2);
        unchanged(x, before);
        is(x.postpone(2, 5), 9);
    }

    @Edge(in = "Promise 11", says = "-3: so it is")
    static void postponeToItsHour() {
        DayRows x = of("at 5 a;at 7 b;rows 64");
        x.take(1);
        String before = state(x);
        is(x.postpone(1, 7), -3);
        unchanged(x, before);
        is(x.postpone(1, 5), 7);
        is(x.postpone(1, 5), -3);
    }

    @Edge(in = "Promise 12", says = "COUNT (1 to 50) THINGS of a NAME come, one by one, DUE at an HOUR, a GAP (1 to 999999) later, and so on: the first NUMBER")
    static void seriesAtItsEdges() {
        DayRows x = names(1);
        is(x.series(0, 1, 0, 1), 0);
        is(x.series(0, 999999, 5, 50), 1);
        is(x.next(50, 2), 5 + 49 * 999999);
        is(x.next(1, 2), 5);
        is(x.count(9), 51);
        is(x.count(6), 3);
        is(x.series(0, 999999, LAST, 1), 51);
        DayRows grows = names(1);
        is(grows.series(0, 5, 0, 9), 0);
        laid(grows, 8, 15, 9, 1, 0);
    }

    @Edge(in = "Promise 12", says = "NONE, and nothing happens, without these")
    static void seriesWithoutThese() {
        DayRows x = names(1);
        String before = state(x);
        for (int name : new int[] {-1, 1, 16, LEAST_INT, MOST_INT}) {
            is(x.series(name, 1, 0, 1), NONE);
        }
        for (int gap : new int[] {-1, 0, 1000000, LEAST_INT, MOST_INT}) {
            is(x.series(0, gap, 0, 1), NONE);
        }
        for (int hour : new int[] {-1, LAST + 1, LEAST_INT, MOST_INT}) {
            is(x.series(0, 1, hour, 1), NONE);
        }
        for (int count : new int[] {-1, 0, 51, LEAST_INT, MOST_INT}) {
            is(x.series(0, 1, 0, count), NONE);
        }
        unchanged(x, before);
    }

    @Edge(in = "Promise 12", says = "-2: the HOUR is ahead of NOW")
    static void seriesAheadOfNow() {
        DayRows x = of("at 9 a");
        x.take(1);
        String before = state(x);
        is(x.series(0, 5, 8, 3), -2);
        is(x.series(0, 999999, 0, 50), -2);
        unchanged(x, before);
        is(x.series(0, 5, 9, 3), 1);
    }

    @Edge(in = "Promise 12", says = "-3: more than 200 would WAIT, or one would be above 999999999")
    static void seriesOfTooMuch() {
        DayRows x = of("every 1 from 0 times 50 a;every 1 from 0 times 50 a;every 1 from 0 times 50 a;at 0 a");
        String before = state(x);
        is(x.series(0, 1, 0, 50), -3);
        is(x.series(0, 999999, 999000001, 2), -3);
        is(x.series(0, 1, LAST, 2), -3);
        is(x.series(0, 999999, LAST, 49), -3);
        unchanged(x, before);
        is(x.series(0, 999999, 999000000, 2), 151);
        is(x.series(0, 1, LAST - 46, 47), 153);
        is(x.count(0), 200);
        is(x.series(0, 1, 0, 1), -3);
    }

    @Edge(in = "Promise 13", says = "All THINGS of a NAME that WAIT are DUE so many (1 to 999999) HOURS later (each, those AHEAD first, goes and comes as by postpone()): how many")
    static void shiftAtItsEdges() {
        DayRows x = of("at 5 a;at 5 b;at 6 a");
        is(x.shift(0, 1), 2);
        order(x, 1, 0, 2);
        hours(x, 5, 6, 7);
        is(x.shift(0, 999999), 2);
        hours(x, 5, 1000005, 1000006);
        is(x.count(9), 3);
        is(x.total(7), 0);
        is(x.count(6), 2);
        DayRows shrinks = of("at 0 a;at 10 b;at 40 a;rows 16");
        is(shrinks.shift(0, 5), 2);
        laid(shrinks, 4, 15, 3 + 2 + 2, 0, 2);
        DayRows other = of("at 0 a;at 10 a;at 40 b;rows 8");
        is(other.shift(0, 25), 2);
        laid(other, 4, 90, 3 + 2, 0, 1);
    }

    @Edge(in = "Promise 13", says = "NONE, and nothing happens, without these")
    static void shiftWithoutThese() {
        DayRows x = of("at 5 a;at 5 b");
        String before = state(x);
        for (int name : new int[] {-1, 2, 16, LEAST_INT, MOST_INT}) {
            is(x.shift(name, 5), NONE);
        }
        for (int many : new int[] {-1, 0, 1000000, LEAST_INT, MOST_INT}) {
            is(x.shift(0, many), NONE);
        }
        unchanged(x, before);
    }

    @Edge(in = "Promise 13", says = "-2: none WAITS")
    static void shiftOfNone() {
        DayRows x = of("at 5 a;at 999999999 b;after c in 5 c");
        x.take(1);
        String before = state(x);
        is(x.shift(0, 5), -2);
        is(x.shift(2, 999999), -2);
        unchanged(x, before);
    }

    @Edge(in = "Promise 13", says = "-3: one would be above 999999999")
    static void shiftAboveTheLastHour() {
        DayRows x = of("at 5 a;at 999999990 a;at 999999995 b");
        String before = state(x);
        is(x.shift(0, 10), -3);
        is(x.shift(0, 999999), -3);
        unchanged(x, before);
        is(x.shift(0, 9), 2);
        hours(x, 14, 999999995, LAST);
        is(x.shift(0, 1), -3);
        is(x.shift(1, 4), 1);
        DayRows first = of("at 999999990 a;at 999999995 b");
        is(first.shift(0, 10), -3);
        is(first.shift(0, 9), 1);
        order(first, 1, 0);
    }

    @Edge(in = "Promise 14", says = "All THINGS of a NAME that WAIT are of another one then: how many")
    static void mergeNamesThoseThatWait() {
        DayRows x = of("at 3 a;at 5 a;at 7 b;at 9 a;rows 64");
        x.take(1);
        int moves = x.total(1);
        is(x.merge(0, 1), 2);
        is(x.named(1, 0), 3);
        is(x.named(0, 0), 0);
        is(x.named(0, 2), 1);
        is(x.log(0, 1), 0);
        is(x.total(1), moves);
        is(x.count(4), 2);
        DayRows full = full();
        is(full.merge(0, 1), 200);
        is(full.longest(0), 200);
    }

    @Edge(in = "Promise 14", says = "NONE, and nothing happens, without these (unlike ones)")
    static void mergeWithoutThese() {
        DayRows x = of("at 5 a;at 7 b");
        String before = state(x);
        is(x.merge(0, 0), NONE);
        is(x.merge(1, 1), NONE);
        for (int name : new int[] {-1, 2, 16, LEAST_INT, MOST_INT}) {
            is(x.merge(name, 0), NONE);
            is(x.merge(0, name), NONE);
            is(x.merge(name, name), NONE);
        }
        unchanged(x, before);
    }

    @Edge(in = "Promise 14", says = "-2: none WAITS")
    static void mergeOfNone() {
        DayRows x = of("at 5 a;at 7 b");
        x.take(1);
        String before = state(x);
        is(x.merge(0, 1), -2);
        unchanged(x, before);
        is(x.merge(1, 0), 1);
        is(x.merge(1, 0), -2);
    }

    @Edge(in = "Promise 15", says = "All that WAIT and are DUE at an HOUR (0 to 999999999), or later, go, those AHEAD first (cancelled ones): how many")
    static void cutAtItsEdges() {
        DayRows x = of("at 5 a;at 6 a;at 6 b;at 999999999 a");
        is(x.cut(LAST), 1);
        is(x.cut(6), 2);
        order(x, 0);
        is(x.cut(0), 1);
        is(x.total(7), 4);
        is(x.count(6), 3);
        is(full().cut(0), 200);
        DayRows shrinks = of("rows 8;at 0 a;at 10 a;at 20 b;at 50 a");
        is(shrinks.cut(10), 3);
        laid(shrinks, 2, 75, 3 + 1, 0, 2);
    }

    @Edge(in = "Promise 15", says = "NONE, and nothing happens, for others")
    static void cutAtAnotherHour() {
        DayRows x = of("at 0 a;at 999999999 a");
        String before = state(x);
        is(x.cut(-1), NONE);
        is(x.cut(LAST + 1), NONE);
        is(x.cut(LEAST_INT), NONE);
        is(x.cut(MOST_INT), NONE);
        unchanged(x, before);
    }

    @Edge(in = "Promise 15", says = "-2: there is none")
    static void cutOfNone() {
        DayRows x = of("at 5 a;at 9 a");
        String before = state(x);
        is(x.cut(10), -2);
        is(x.cut(LAST), -2);
        unchanged(x, before);
        is(x.cut(9), 1);
        is(new DayRows().cut(0), -2);
    }

    @Edge(in = "Promise 16", says = "Two that WAIT change their HOURS (the first goes, the other goes, the first comes, the other comes; NUMBERS stay): 1")
    static void swapGoesAndComes() {
        DayRows x = of("at 0 a;at 5 a;at 999999999 b");
        is(x.swap(0, 2), 1);
        order(x, 2, 1, 0);
        is(x.of(2, 1), 1);
        is(x.of(0, 2), LAST);
        is(x.swap(0, 2), 1);
        order(x, 0, 1, 2);
        is(x.total(7), 0);
        is(x.count(9), 3);
    }

    @Edge(in = "Promise 16", says = "the first goes, the other goes, the first comes, the other comes")
    static void swapInThisOrder() {
        DayRows both = of("at 0 a;at 10 a;at 30 b;at 60 b;rows 16");
        is(both.swap(0, 3), 1);
        laid(both, 4, 60, 4 + 3 + 2, 0, 2);
        DayRows shrinks = of("at 0 a;at 10 a;at 30 b;at 60 b;rows 8");
        is(shrinks.swap(0, 3), 1);
        laid(shrinks, 4, 75, 4 + 3, 0, 1);
        DayRows other = of("at 0 a;at 10 a;at 30 b;at 60 b;rows 8");
        is(other.swap(3, 0), 1);
        laid(other, 4, 45, 4 + 3, 0, 1);
        DayRows grows = of("every 10 from 0 times 5 a;at 55 a;rows 2");
        is(grows.swap(5, 0), 1);
        laid(grows, 4, 30, 6 + 5, 1, 0);
        DayRows reverse = of("every 10 from 0 times 5 a;at 55 a;rows 2");
        is(reverse.swap(0, 5), 1);
        laid(reverse, 4, 33, 6 + 5, 1, 0);
    }

    @Edge(in = "Promise 16", says = "NONE, and nothing happens, without these (unlike ones)")
    static void swapWithoutThese() {
        DayRows x = of("at 3 a;at 5 a;at 7 b");
        x.take(1);
        String before = state(x);
        for (int number : new int[] {0, 1, 3, -1, LEAST_INT, MOST_INT}) {
            is(x.swap(1, number), NONE);
            is(x.swap(number, 1), NONE);
        }
        is(x.swap(0, 0), NONE);
        is(x.swap(-1, -1), NONE);
        unchanged(x, before);
    }

    @Edge(in = "Promise 16", says = "-2: they are DUE at one HOUR")
    static void swapAtOneHour() {
        DayRows x = of("at 5 a;at 5 b;at 6 a;rows 64");
        String before = state(x);
        is(x.swap(0, 1), -2);
        is(x.swap(1, 0), -2);
        unchanged(x, before);
        is(x.swap(1, 2), 1);
    }

    @Edge(in = "Promise 17", says = "A RULE comes behind the others: what is TAKEN of a NAME brings one of a NAME, so many HOURS (1 to 999999) later: its number")
    static void ruleAtItsEdges() {
        DayRows x = names(2);
        is(x.rule(0, 1, 1), 0);
        is(x.rule(0, 0, 999999), 1);
        is(x.rule(0, 1, 1), 2);
        x.push(0, 5);
        x.take(1);
        hours(x, 6, 6, 1000004);
        order(x, 1, 3, 2);
        is(x.count(6), 7);
    }

    @Edge(in = "Promise 17", says = "NONE, and nothing happens, without these")
    static void ruleWithoutThese() {
        DayRows x = names(2);
        String before = state(x);
        for (int name : new int[] {-1, 2, 16, LEAST_INT, MOST_INT}) {
            is(x.rule(name, 0, 5), NONE);
            is(x.rule(0, name, 5), NONE);
        }
        for (int gap : new int[] {-1, 0, 1000000, LEAST_INT, MOST_INT}) {
            is(x.rule(0, 1, gap), NONE);
        }
        unchanged(x, before);
    }

    @Edge(in = "Promise 17", says = "-2: there are 12")
    static void aThirteenthRule() {
        DayRows x = names(2);
        for (int rule = 0; rule < 12; rule++) {
            is(x.rule(0, 1, 5 + rule), rule);
        }
        String before = state(x);
        is(x.rule(0, 1, 5), -2);
        is(x.rule(1, 1, 5), -2);
        is(x.rule(0, 1, 0), NONE);
        is(x.rule(2, 1, 5), NONE);
        unchanged(x, before);
        is(x.ruled(11, 2), 16);
        is(x.ruled(12, 2), NONE);
        is(x.unrule(0), 11);
        is(x.rule(1, 1, 5), 11);
    }

    @Edge(in = "Promise 18", says = "A RULE goes, later ones have a number less: how many are left")
    static void unruleFirstAndLast() {
        DayRows x = names(2);
        for (int rule = 0; rule < 12; rule++) {
            x.rule(0, 1, 5 + rule);
        }
        is(x.unrule(11), 11);
        is(x.ruled(10, 2), 15);
        is(x.ruled(11, 2), NONE);
        is(x.unrule(0), 10);
        for (int rule = 0; rule < 10; rule++) {
            is(x.ruled(rule, 2), 6 + rule);
        }
        is(x.unrule(5), 9);
        is(x.ruled(4, 2), 10);
        is(x.ruled(5, 2), 12);
        is(x.named(0, 3), 9);
        DayRows unlike = of("after a in 1 b;after b in 2 c;after c in 3 a");
        is(unlike.unrule(0), 2);
        for (int what = 0; what < 3; what++) {
            is(unlike.ruled(0, what), new int[] {1, 2, 2}[what]);
            is(unlike.ruled(1, what), new int[] {2, 0, 3}[what]);
        }
    }

    @Edge(in = "Promise 18", says = "NONE, and nothing happens, without it")
    static void unruleWithoutIt() {
        DayRows x = of("after a in 1 b;after b in 2 c");
        String before = state(x);
        for (int rule : new int[] {2, -1, 11, 12, LEAST_INT, MOST_INT}) {
            is(x.unrule(rule), NONE);
        }
        unchanged(x, before);
        is(new DayRows().unrule(0), NONE);
    }

    @Edge(in = "Promise 19", says = "ROWS (2, 4, .., 64), WIDTH (1 to 99999999) are told, all that WAIT are laid anew: how many ROWS there were")
    static void resizeAtItsEdges() {
        DayRows x = of("every 10 from 0 times 3 a");
        is(x.resize(2, 1), 4);
        laid(x, 2, 1, 3, 0, 0);
        is(x.resize(64, 99999999), 2);
        laid(x, 64, 99999999, 6, 0, 0);
        is(x.row(0, NONE), 3);
        is(x.resize(64, 10), 64);
        is(x.row(2, 0), 2);
        laid(x, 64, 10, 9, 0, 0);
        DayRows full = full();
        int rows = full.count(1);
        is(full.resize(2, 100), rows);
        is(full.count(1), 2);
        is(full.row(0, NONE), 100);
    }

    @Edge(in = "Promise 19", says = "NONE, and nothing happens, for others")
    static void resizeForOthers() {
        DayRows x = of("every 10 from 0 times 3 a");
        String before = state(x);
        for (int rows : new int[] {-2, 0, 1, 3, 6, 63, 65, 128, LEAST_INT, MOST_INT}) {
            is(x.resize(rows, 10), NONE);
        }
        for (int width : new int[] {-1, 0, 100000000, LEAST_INT, MOST_INT}) {
            is(x.resize(8, width), NONE);
        }
        unchanged(x, before);
    }

    @Edge(in = "Promise 19", says = "-2: so it is")
    static void resizeToWhatThereIs() {
        DayRows x = of("every 10 from 0 times 3 a");
        String before = state(x);
        is(x.resize(4, 10), -2);
        unchanged(x, before);
        is(x.resize(4, 11), 4);
        is(x.resize(8, 11), 4);
        is(x.resize(8, 11), -2);
        is(x.total(1), 6);
    }

    @Edge(in = "Promise 20", says = "The last ACT is UNDONE: how many more can be")
    static void undoOfEachAct() {
        DayRows x = of("rows 8;at 5 a;at 9 b;at 9 b;at 12 c;after a in 5 b");
        String before = state(x);
        for (int act = 0; act < 15; act++) {
            doAct(x, act);
            is(x.count(6), 1);
            is(x.undo(), 0);
            unchanged(x, before);
        }
    }

    @Edge(in = "Promise 20", says = "The last ACT is UNDONE")
    static void undoOfWhatWasTakenAndLost() {
        DayRows x = of("at 999999990 a;at 999999995 b;after a in 10 b;after b in 4 a");
        is(x.take(1), 1);
        is(x.take(2), 2);
        int[][] due = {{2, 1, 0, 2}, {1, 0, 0, 1}, {0, 0, 0, 0}};
        for (int k = 0; k < 3; k++) {
            is(x.named(0, 2), due[k][0]);
            is(x.named(1, 2), due[k][1]);
            is(x.named(0, 4), due[k][2]);
            is(x.named(1, 4), due[k][3]);
            is(x.undo(), k < 2 ? 1 - k : NONE);
        }
        is(x.log(0, 0), NONE);
        is(x.count(3), 0);
        is(x.total(0), 0);
    }

    private static void doAct(DayRows x, int act) {
        switch (act) {
            case 0: is(name(x, "d"), 3); break;
            case 1: is(x.push(0, 7), 4); break;
            case 2: is(x.take(2), 2); break;
            case 3: is(x.until(9), 3); break;
            case 4: is(x.cancel(1), 3); break;
            case 5: is(x.clear(1), 2); break;
            case 6: is(x.postpone(0, 99), 5); break;
            case 7: is(x.series(2, 5, 9, 40), 4); break;
            case 8: is(x.shift(1, 5), 2); break;
            case 9: is(x.merge(0, 2), 1); break;
            case 10: is(x.cut(9), 3); break;
            case 11: is(x.swap(3, 0), 1); break;
            case 12: is(x.rule(0, 2, 1), 1); break;
            case 13: is(x.unrule(0), 0); break;
            default: is(x.resize(64, 1), 8); break;
        }
    }

    @Edge(in = "Promise 20", says = "The last ACT is UNDONE")
    static void undoLeavesTapeAndShelves() {
        DayRows x = of("at 5 a");
        x.push(0, 9);
        x.keep(1);
        feed(x, "abc");
        is(x.undo(), 0);
        is(x.count(7), 3);
        is(x.count(8), 2);
        is(x.same(1, 0), 0);
        is(x.back(1), 2);
        is(x.name(), 1);
    }

    @Edge(in = "Promise 20", says = "NONE, and nothing happens, if none can")
    static void undoOfNone() {
        DayRows x = new DayRows();
        is(x.undo(), NONE);
        is(name(x, "a"), 0);
        is(x.undo(), 0);
        String before = state(x);
        is(x.undo(), NONE);
        unchanged(x, before);
        DayRows many = of("at 5 a");
        for (int act = 0; act < 25; act++) {
            many.push(0, 10 + act);
        }
        for (int left = 9; left >= 0; left--) {
            is(many.undo(), left);
        }
        before = state(many);
        is(many.undo(), NONE);
        is(many.count(0), 16);
        unchanged(many, before);
    }

    @Edge(in = "Promise 21", says = "All is KEPT on a SHELF: how many WAIT")
    static void keepOnBothShelves() {
        DayRows x = names(1);
        is(x.keep(1), 0);
        is(x.count(8), 2);
        x.push(0, 5);
        is(x.keep(0), 1);
        is(x.count(8), 3);
        x.push(0, 5);
        is(x.keep(0), 2);
        is(x.count(8), 3);
        is(x.count(6), 3);
        is(x.back(1), 0);
        is(x.back(0), 2);
    }

    @Edge(in = "Promise 21", says = "NONE, and nothing happens, without that SHELF")
    static void keepWithoutShelf() {
        DayRows x = of("at 5 a");
        String before = state(x);
        for (int shelf : new int[] {-1, 2, 31, 32, LEAST_INT, MOST_INT}) {
            is(x.keep(shelf), NONE);
        }
        unchanged(x, before);
        is(x.back(0), -2);
        is(x.back(1), -2);
    }

    @Edge(in = "Promise 22", says = "All is as it was KEPT (nothing can be UNDONE then): how many WAIT")
    static void backToWhatWasKept() {
        DayRows x = of("rows 8;wide 7;at 5 abc;at 7 b;after b in 999999 abc");
        x.take(1);
        is(x.keep(1), 1);
        String kept = state(x);
        x.take(1);
        x.unrule(0);
        name(x, "c");
        x.resize(64, 64);
        x.series(0, 5, 900, 30);
        x.cut(0);
        is(x.count(6), 7);
        is(x.back(1), 1);
        is(x.count(6), 0);
        is(x.undo(), NONE);
        is(x.log(0, 0), 0);
        is(x.log(1, 0), NONE);
        is(x.named(1, 2), 0);
        is(x.ruled(0, 2), 999999);
        is(x.letter(2, 0), NONE);
        is(x.push(1, 8), 2);
        is(x.count(6), 1);
        is(x.undo(), 0);
        is(state(x).replaceFirst("^(\\S+ \\S+ \\S+ \\S+ \\S+ \\S+) 0", "$1 1").equals(kept) ? 1 : 0, 1);
    }

    @Edge(in = "Promise 22", says = "nothing can be UNDONE then")
    static void backForgetsTheActs() {
        DayRows x = of("at 5 a");
        for (int act = 0; act < 12; act++) {
            x.push(0, 10 + act);
        }
        is(x.keep(0), 13);
        is(x.count(6), 10);
        is(x.back(0), 13);
        is(x.undo(), NONE);
        for (int act = 0; act < 12; act++) {
            x.push(0, 30 + act);
            is(x.count(6), Math.min(10, act + 1));
        }
        for (int left = 9; left >= 0; left--) {
            is(x.undo(), left);
        }
        is(x.undo(), NONE);
        is(x.count(0), 15);
    }

    @Edge(in = "Promise 22", says = "NONE, and nothing happens, without that SHELF")
    static void backWithoutShelf() {
        DayRows x = of("at 5 a");
        x.keep(0);
        x.keep(1);
        x.push(0, 9);
        String before = state(x);
        for (int shelf : new int[] {-1, 2, 32, LEAST_INT, MOST_INT}) {
            is(x.back(shelf), NONE);
        }
        unchanged(x, before);
    }

    @Edge(in = "Promise 22", says = "-2: nothing is KEPT")
    static void backToNothing() {
        DayRows x = of("at 5 a");
        x.push(0, 9);
        String before = state(x);
        is(x.back(0), -2);
        is(x.back(1), -2);
        unchanged(x, before);
        x.keep(0);
        is(x.back(1), -2);
        is(x.back(0), 2);
    }
}
