/** The edges that the document names for the calls that only tell, promises 23 to 55. */
final class EdgesOfLooks extends Checks {
    /** What no name, number, shelf or place can be. */
    private static final int[] ODD = {-2, LEAST_INT, MOST_INT};

    private EdgesOfLooks() { }

    /** A thing that is taken and comes again, without end. */
    private static DayRows endless() {
        return of("at 0 a;after a in 10 a");
    }

    @Edge(in = "Promise 23", says = "Of the k-th THING that WAITS (AHEAD first) what 0: its NUMBER, 1: NAME, 2: HOUR, 3: ROW")
    static void nextOfTheFirstAndTheLast() {
        DayRows x = of("at 999999999 a;at 5 b");
        int[][] due = {{1, 1, 5, 0}, {0, 0, LAST, 3}};
        for (int k = 0; k < 2; k++) {
            for (int what = 0; what < 4; what++) {
                is(x.next(k, what), due[k][what]);
            }
        }
        DayRows full = full();
        is(full.next(199, 0), 199);
        is(full.next(200, 0), NONE);
    }

    @Edge(in = "Promise 23", says = "NONE without these")
    static void nextWithoutThese() {
        DayRows x = of("at 999999999 a;at 5 b");
        is(x.next(2, 0), NONE);
        is(x.next(-1, 0), NONE);
        is(x.next(0, -1), NONE);
        is(x.next(0, 4), NONE);
        for (int odd : ODD) {
            is(x.next(odd, 0), NONE);
            is(x.next(0, odd), NONE);
        }
        x.take(1);
        is(x.next(1, 0), NONE);
        is(new DayRows().next(0, 0), NONE);
    }

    @Edge(in = "Promise 24", says = "Of a THING by its NUMBER what 0: how many that WAIT are AHEAD of it, 1: NAME, 2: HOUR, 3: ROW, 4: how many lie AHEAD of it in that ROW")
    static void ofTheFirstAndTheLast() {
        DayRows x = of("at 999999999 a;at 30 b;at 70 a");
        int[][] due = {{2, 0, LAST, 3, 2}, {0, 1, 30, 3, 0}, {1, 0, 70, 3, 1}};
        for (int number = 0; number < 3; number++) {
            for (int what = 0; what < 5; what++) {
                is(x.of(number, what), due[number][what]);
            }
        }
    }

    @Edge(in = "Promise 24", says = "NONE without these, or if it does not WAIT")
    static void ofWithoutThese() {
        DayRows x = of("at 5 a;at 30 b;at 70 a");
        x.take(1);
        x.cancel(2);
        is(x.of(0, 0), NONE);
        is(x.of(2, 0), NONE);
        is(x.of(3, 0), NONE);
        is(x.of(-1, 0), NONE);
        is(x.of(1, -1), NONE);
        is(x.of(1, 5), NONE);
        for (int odd : ODD) {
            is(x.of(odd, 1), NONE);
            is(x.of(1, odd), NONE);
        }
        is(new DayRows().of(0, 0), NONE);
    }

    @Edge(in = "Promise 25", says = "The NUMBER of the k-th THING of a ROW")
    static void rowFirstAndLast() {
        DayRows x = of("at 39 a;at 5 b;at 79 a");
        is(x.row(0, 0), 1);
        is(x.row(3, 0), 0);
        is(x.row(3, 1), 2);
        DayRows full = of("every 1 from 0 times 50 a;every 1 from 0 times 50 a;every 1 from 0 times 50 a;"
            + "every 1 from 0 times 50 a;wide 99999999");
        is(full.row(0, NONE), 200);
        is(full.row(0, 199), 199);
        is(full.row(0, 200), -2);
    }

    @Edge(in = "Promise 25", says = "k NONE: how many there are")
    static void rowHowMany() {
        DayRows x = of("at 39 a;at 5 b;at 79 a");
        is(x.row(0, NONE), 1);
        is(x.row(1, NONE), 0);
        is(x.row(3, NONE), 2);
    }

    @Edge(in = "Promise 25", says = "-2: not so many")
    static void rowNotSoMany() {
        DayRows x = of("at 39 a;at 5 b;at 79 a");
        is(x.row(0, 1), -2);
        is(x.row(1, 0), -2);
        is(x.row(3, 2), -2);
        is(x.row(3, MOST_INT), -2);
    }

    @Edge(in = "Promise 25", says = "NONE without that ROW, below NONE")
    static void rowWithoutThese() {
        DayRows x = of("at 39 a;at 5 b;at 79 a");
        is(x.row(4, 0), NONE);
        is(x.row(-1, 0), NONE);
        is(x.row(4, NONE), NONE);
        is(x.row(-1, NONE), NONE);
        is(x.row(0, -2), NONE);
        is(x.row(0, LEAST_INT), NONE);
        is(x.row(LEAST_INT, 0), NONE);
        is(x.row(MOST_INT, 0), NONE);
        x.resize(64, 10);
        is(x.row(63, NONE), 0);
        is(x.row(64, NONE), NONE);
        x.resize(2, 10);
        is(x.row(2, NONE), NONE);
    }

    @Edge(in = "Promise 26", says = "Letter k of a NAME (97 to 122)")
    static void lettersFromTheFirstToTheLast() {
        DayRows x = of("at 5 azbycx;at 5 z");
        for (int k = 0; k < 6; k++) {
            is(x.letter(0, k), "azbycx".charAt(k));
        }
        is(x.letter(1, 0), 122);
    }

    @Edge(in = "Promise 26", says = "NONE without these")
    static void letterWithoutThese() {
        DayRows x = of("at 5 azbycx;at 5 z");
        is(x.letter(0, 6), NONE);
        is(x.letter(1, 1), NONE);
        is(x.letter(0, -1), NONE);
        is(x.letter(2, 0), NONE);
        is(x.letter(-1, 0), NONE);
        is(x.letter(16, 0), NONE);
        for (int odd : ODD) {
            is(x.letter(odd, 0), NONE);
            is(x.letter(0, odd), NONE);
        }
    }

    @Edge(in = "Promise 27", says = "Of a NAME what 0: how many WAIT, 1: the HOUR of the first of these (-2: none WAITS), 2: how many were TAKEN, 3: RULES of it, 4: how many LOST of it")
    static void namedWithAllAndWithNone() {
        DayRows x = of("at 999999999 a;at 0 a;after a in 1 b;after a in 2 b;after b in 1 a;at 5 c");
        int[][] due = {{2, 0, 0, 2, 0}, {0, -2, 0, 1, 0}, {1, 5, 0, 0, 0}};
        for (int name = 0; name < 3; name++) {
            for (int what = 0; what < 5; what++) {
                is(x.named(name, what), due[name][what]);
            }
        }
        DayRows last = of("at 5 a;at 999999999 a;after a in 1 b");
        last.take(3);
        is(last.named(0, 1), -2);
        is(last.named(0, 2), 2);
        is(last.named(1, 1), -2);
        is(last.named(1, 2), 1);
        is(last.named(1, 4), 1);
        is(last.named(0, 4), 0);
        DayRows full = full();
        is(full.named(0, 0), 200);
        is(full.named(1, 1), -2);
        full.clear(0);
        is(full.named(0, 1), -2);
        is(full.named(0, 0), 0);
        is(full.named(0, 2), 0);
    }

    @Edge(in = "Promise 27", says = "NONE without these")
    static void namedWithoutThese() {
        DayRows x = of("at 5 a;at 6 b");
        for (int what = 0; what < 5; what++) {
            is(x.named(2, what), NONE);
            is(x.named(-1, what), NONE);
            is(x.named(16, what), NONE);
        }
        is(x.named(0, 5), NONE);
        is(x.named(0, -1), NONE);
        for (int odd : ODD) {
            is(x.named(odd, 0), NONE);
            is(x.named(0, odd), NONE);
        }
    }

    @Edge(in = "Promise 28", says = "Of a RULE what 0: NAME, 1: the other one, 2: GAP")
    static void ruledFirstAndLast() {
        DayRows x = names(2);
        for (int rule = 0; rule < 12; rule++) {
            x.rule(rule % 2, 1, rule + 1);
        }
        for (int rule : new int[] {0, 11}) {
            is(x.ruled(rule, 0), rule % 2);
            is(x.ruled(rule, 1), 1);
            is(x.ruled(rule, 2), rule + 1);
        }
    }

    @Edge(in = "Promise 28", says = "NONE without these")
    static void ruledWithoutThese() {
        DayRows x = of("after a in 5 b");
        for (int what = 0; what < 3; what++) {
            is(x.ruled(1, what), NONE);
            is(x.ruled(-1, what), NONE);
            is(x.ruled(12, what), NONE);
        }
        is(x.ruled(0, 3), NONE);
        is(x.ruled(0, -1), NONE);
        for (int odd : ODD) {
            is(x.ruled(odd, 0), NONE);
            is(x.ruled(0, odd), NONE);
        }
        x.unrule(0);
        is(x.ruled(0, 0), NONE);
    }

    @Edge(in = "Promise 29", says = "Of the k-th of the LOG (0 the latest) what 0: its NUMBER, 1: NAME, 2: HOUR, 3: LOOKS by which it was found")
    static void logTheLatestFirst() {
        DayRows x = of("rows 2;at 5 a;at 999999999 b;at 7 b");
        x.take(3);
        int[][] due = {{1, 1, LAST, 4}, {2, 1, 7, 1}, {0, 0, 5, 1}};
        for (int k = 0; k < 3; k++) {
            for (int what = 0; what < 4; what++) {
                is(x.log(k, what), due[k][what]);
            }
        }
    }

    @Edge(in = "Promise 29", says = "NONE without these")
    static void logWithoutThese() {
        DayRows x = endless();
        is(x.log(0, 0), NONE);
        x.take(99);
        is(x.log(49, 2), 490);
        is(x.log(50, 2), NONE);
        is(x.log(-1, 0), NONE);
        is(x.log(0, -1), NONE);
        is(x.log(0, 4), NONE);
        for (int odd : ODD) {
            is(x.log(odd, 0), NONE);
            is(x.log(0, odd), NONE);
        }
        DayRows y = endless();
        y.take(2);
        is(y.log(1, 2), 0);
        is(y.log(2, 2), NONE);
    }

    @Edge(in = "Promise 30", says = "What 0: LOOKS, 1: MOVES, 2: JUMPS, 3: GROWN, 4: SHRUNK, 5: TAKEN, 6: LOST, 7: cancelled (by clear(), too), all so far")
    static void totalsOfAllSoFar() {
        DayRows x = of("every 5 from 0 times 9 a;at 999999999 b;after b in 1 a");
        x.take(4);
        x.cancel(4);
        x.clear(0);
        x.take(1);
        x.push(0, LAST);
        x.cut(LAST);
        int looks = 1 + 1 + 1 + 2 + 16 / 2;
        int[] due = {looks, 9 + 3, 1, 1, 2, 5, 1, 6};
        is(x.total(2), due[2]);
        is(x.total(3), due[3]);
        is(x.total(5), due[5]);
        is(x.total(6), due[6]);
        is(x.total(7), due[7]);
        for (int what = 0; what < 8; what++) {
            is(new DayRows().total(what), 0);
        }
    }

    @Edge(in = "Promise 30", says = "NONE for others")
    static void totalOfOthers() {
        DayRows x = endless();
        x.take(3);
        is(x.total(-1), NONE);
        is(x.total(8), NONE);
        for (int odd : ODD) {
            is(x.total(odd), NONE);
        }
    }

    @Edge(in = "Promise 31", says = "What 0: the most THINGS of a ROW, 1: the first such ROW, 2: ROWS without any, 3: the most that are DUE at one HOUR")
    static void skewOfRowsAndHours() {
        DayRows x = new DayRows();
        for (int what = 0; what < 6; what++) {
            is(x.skew(what), what == 2 ? 4 : 0);
        }
        x = of("at 35 a;at 15 a;at 75 b;at 55 a");
        int[] due = {2, 1, 2, 1};
        for (int what = 0; what < 4; what++) {
            is(x.skew(what), due[what]);
        }
        x = of("at 7 a;at 5 a;at 7 b;at 7 a;at 8 a;at 8 b");
        is(x.skew(0), 6);
        is(x.skew(1), 0);
        is(x.skew(2), 3);
        is(x.skew(3), 3);
        is(of("at 999999999 a;at 999999999 b").skew(3), 2);
        x = of("at 0 a;at 10 a;at 20 a;at 30 a");
        is(x.skew(2), 0);
        is(x.skew(1), 0);
    }

    @Edge(in = "Promise 31", says = "4: the mean GAP from each that WAITS to the next one, downwards (0 with fewer than two), 5: the greatest such GAP (0 likewise)")
    static void skewOfGaps() {
        is(of("at 7 a").skew(4), 0);
        is(of("at 7 a").skew(5), 0);
        is(of("at 7 a;at 7 b").skew(4), 0);
        is(of("at 7 a;at 7 b").skew(5), 0);
        is(of("at 0 a;at 999999999 b").skew(4), LAST);
        is(of("at 0 a;at 999999999 b").skew(5), LAST);
        is(of("at 0 a;at 1 b;at 5 b").skew(4), 2);
        is(of("at 0 a;at 1 b;at 6 b").skew(4), 3);
        is(of("at 0 a;at 5 b;at 6 b").skew(5), 5);
        is(of("at 0 a;at 1 b;at 6 b").skew(5), 5);
        is(full().skew(4), 1);
    }

    @Edge(in = "Promise 31", says = "NONE for others")
    static void skewOfOthers() {
        DayRows x = of("at 7 a;at 9 b");
        is(x.skew(-1), NONE);
        is(x.skew(6), NONE);
        for (int odd : ODD) {
            is(x.skew(odd), NONE);
        }
    }

    @Edge(in = "Promise 32", says = "LOOKS by which the next one would be TAKEN")
    static void looksOfTheNext() {
        DayRows x = of("at 9 a;at 49 b;at 90 a");
        int[] due = {1, 8, 4};
        for (int k = 0; k < 3; k++) {
            is(x.looks(), due[k]);
            is(x.looks(), due[k]);
            is(x.count(3), k == 0 ? 0 : k == 1 ? 9 : 49);
            x.take(1);
            is(x.log(0, 3), due[k]);
        }
        is(of("rows 64;wide 1;at 999999999 a").looks(), 128);
        is(of("rows 2;wide 99999999;at 99999999 a").looks(), 2);
        is(of("rows 2;wide 99999999;at 99999998 a").looks(), 1);
    }

    @Edge(in = "Promise 32", says = "-2: none WAITS")
    static void looksOfNone() {
        DayRows x = new DayRows();
        is(x.looks(), -2);
        DayRows y = of("at 5 a");
        y.take(1);
        is(y.looks(), -2);
    }

    @Edge(in = "Promise 33", says = "LOOKS to TAKE all that WAIT, one by one, with so many ROWS (2, 4, .., 64), that WIDTH (1 to 99999999) (nothing brought, no SHRINKING; from NOW on)")
    static void lookByAtItsEdges() {
        DayRows x = of("rows 64;at 19 a;at 19 b;at 39 a;at 79 b;after a in 1 b");
        String before = state(x);
        is(x.lookBy(2, 10), 2 + 1 + 4 + 4);
        is(x.lookBy(4, 10), 2 + 1 + 3 + 8);
        is(x.lookBy(4, 1), 8 + 1 + 8 + 8);
        is(x.lookBy(64, 1), 20 + 1 + 21 + 41);
        is(x.lookBy(2, 99999999), 4);
        is(x.lookBy(64, 20), 1 + 1 + 2 + 3);
        unchanged(x, before);
        x.unrule(0);
        x.take(2);
        is(x.lookBy(4, 10), 3 + 8);
        is(of("at 0 a;at 63 a").lookBy(64, 1), 65);
        is(of("at 0 a;at 64 a").lookBy(64, 1), 129);
        is(new DayRows().lookBy(64, 1), 0);
        is(new DayRows().lookBy(2, 99999999), 0);
        is(full().lookBy(2, 1), 1 + 199 * 2);
    }

    @Edge(in = "Promise 33", says = "NONE for others")
    static void lookByOthers() {
        DayRows x = of("at 19 a");
        for (int rows : new int[] {-4, 0, 1, 3, 6, 63, 65, 128, LEAST_INT, MOST_INT}) {
            is(x.lookBy(rows, 10), NONE);
        }
        for (int width : new int[] {-1, 0, 100000000, LEAST_INT, MOST_INT}) {
            is(x.lookBy(4, width), NONE);
        }
    }

    @Edge(in = "Promise 34", says = "Of WIDTHS 1, 2, 4, .., 67108864 that by which lookBy() of so many ROWS is least, of several the least, what 0: WIDTH, 1: LOOKS")
    static void bestAtItsEdges() {
        DayRows x = of("at 0 a;at 67108864 a");
        is(x.best(64, 0), 67108864);
        is(x.best(64, 1), 3);
        is(of("at 0 a;at 67108863 a").best(2, 0), 67108864);
        is(of("at 0 a;at 67108863 a").best(2, 1), 2);
        is(of("at 0 a;at 33554431 a").best(2, 0), 33554432);
        is(of("at 0 a").best(2, 0), 1);
        is(of("at 0 a").best(2, 1), 1);
        is(of("at 1 a").best(2, 0), 2);
        is(of("at 1 a").best(64, 1), 1);
        is(of("at 999999999 a").best(2, 0), 1);
        is(of("at 999999999 a").best(2, 1), 4);
        is(of("at 999999999 a").best(16, 0), 67108864);
        is(of("at 999999999 a").best(16, 1), 15);
        is(new DayRows().best(2, 0), 1);
        is(new DayRows().best(64, 1), 0);
    }

    @Edge(in = "Promise 34", says = "NONE without these")
    static void bestWithoutThese() {
        DayRows x = of("at 19 a");
        for (int rows : new int[] {-4, 0, 1, 3, 6, 63, 65, 128, LEAST_INT, MOST_INT}) {
            is(x.best(rows, 0), NONE);
            is(x.best(rows, 1), NONE);
        }
        is(x.best(4, -1), NONE);
        is(x.best(4, 2), NONE);
        for (int odd : ODD) {
            is(x.best(4, odd), NONE);
        }
    }

    @Edge(in = "Promise 35", says = "What WIDTH anew would be.")
    static void widthNowAtItsEdges() {
        DayRows x = of("wide 99999999;at 5 a");
        is(x.widthNow(), 99999999);
        x.push(0, 5);
        is(x.widthNow(), 1);
        x.cancel(0);
        x.push(0, LAST);
        String before = state(x);
        is(x.widthNow(), 99999999);
        unchanged(x, before);
        is(new DayRows().widthNow(), 10);
        is(full().widthNow(), 3);
    }

    @Edge(in = "Promise 36", says = "Were n (1 to 300) TAKEN from now on (with what they bring), what 0: the NUMBER of the n-th, 1: NAME, 2: HOUR, 3: how many WAIT then, 4: LOOKS by all")
    static void aheadAtItsEdges() {
        DayRows x = endless();
        String before = state(x);
        int[][] due = {{0, 0, 0, 1, 1}, {299, 0, 2990, 1, 1 + 299 * 2}};
        for (int what = 0; what < 5; what++) {
            is(x.ahead(1, what), due[0][what]);
            is(x.ahead(300, what), due[1][what]);
        }
        unchanged(x, before);
        x.take(1);
        is(x.ahead(300, 0), 300);
        is(x.ahead(300, 4), 600);
        DayRows last = of("at 5 a;at 999999999 b;after b in 1 a");
        is(last.ahead(2, 3), 0);
        is(last.ahead(2, 4), 1 + 4);
        is(full().ahead(200, 0), 199);
    }

    @Edge(in = "Promise 36", says = "-2: fewer would be")
    static void aheadOfFewer() {
        DayRows x = of("at 5 a;at 9 b;after b in 1 a");
        for (int what = 0; what < 5; what++) {
            is(x.ahead(4, what), -2);
            is(x.ahead(300, what), -2);
        }
        is(x.ahead(3, 2), 10);
        is(new DayRows().ahead(1, 3), -2);
        is(full().ahead(201, 0), -2);
    }

    @Edge(in = "Promise 36", says = "NONE for others")
    static void aheadOfOthers() {
        DayRows x = endless();
        x.take(1);
        for (int what = 0; what < 5; what++) {
            is(x.ahead(0, what), NONE);
            is(x.ahead(-1, what), NONE);
            is(x.ahead(301, what), NONE);
        }
        is(x.ahead(1, -1), NONE);
        is(x.ahead(1, 5), NONE);
        for (int odd : ODD) {
            is(x.ahead(odd, 0), NONE);
            is(x.ahead(1, odd), NONE);
        }
    }

    @Edge(in = "Promise 37", says = "How many THINGS that WAIT are DUE from an HOUR on, ahead of another one")
    static void betweenAtItsEdges() {
        DayRows x = of("at 0 a;at 5 a;at 5 b;at 999999999 a");
        is(x.between(0, 1), 1);
        is(x.between(1, 5), 0);
        is(x.between(5, 6), 2);
        is(x.between(4, 6), 2);
        is(x.between(6, LAST), 0);
        is(x.between(LAST, LAST + 1), 1);
        is(x.between(0, LAST + 1), 4);
        is(new DayRows().between(0, LAST + 1), 0);
    }

    @Edge(in = "Promise 37", says = "NONE without these (0 to 1000000000; to above from)")
    static void betweenWithoutThese() {
        DayRows x = of("at 0 a;at 5 a;at 5 b;at 999999999 a");
        is(x.between(-1, 5), NONE);
        is(x.between(0, LAST + 2), NONE);
        is(x.between(5, 5), NONE);
        is(x.between(5, 4), NONE);
        is(x.between(0, 0), NONE);
        is(x.between(LAST + 1, LAST + 1), NONE);
        is(x.between(LAST + 1, LAST + 2), NONE);
        for (int odd : ODD) {
            is(x.between(odd, 5), NONE);
            is(x.between(0, odd), NONE);
        }
        is(x.between(0, -1), NONE);
    }

    @Edge(in = "Promise 38", says = "The most THINGS that WAIT that are DUE within so many (1 to 999999999) HOURS, the first HOUR counted, what 0: how many")
    static void crowdAtItsEdges() {
        DayRows x = of("at 0 a;at 4 a;at 5 b;at 999999998 a;at 999999999 a;at 999999999 b");
        is(x.crowd(1, 0), 2);
        is(x.crowd(2, 0), 3);
        is(x.crowd(5, 0), 3);
        is(x.crowd(6, 0), 3);
        is(x.crowd(LAST - 1, 0), 5);
        is(of("at 0 a;at 999999998 a").crowd(LAST, 0), 2);
        is(of("at 0 a;at 999999999 a").crowd(LAST, 0), 1);
        is(of("at 0 a;at 999999998 a").crowd(LAST - 1, 0), 1);
        is(of("at 0 a;at 4 a").crowd(4, 0), 1);
        is(of("at 0 a;at 4 a").crowd(5, 0), 2);
        is(new DayRows().crowd(1, 0), 0);
        is(full().crowd(LAST, 0), 200);
        is(full().crowd(199, 0), 199);
    }

    @Edge(in = "Promise 38", says = "1: the earliest HOUR of one from which on it is so (-2: none WAITS)")
    static void crowdEarliest() {
        DayRows x = of("at 0 a;at 4 a;at 5 b;at 999999998 a;at 999999999 a;at 999999999 b");
        is(x.crowd(1, 1), LAST);
        is(x.crowd(2, 1), LAST - 1);
        is(x.crowd(6, 1), 0);
        is(x.crowd(LAST - 1, 1), 4);
        is(of("at 0 a;at 999999999 a").crowd(LAST, 1), 0);
        is(of("at 0 a;at 1 b;at 999999999 a").crowd(LAST, 1), 0);
        is(of("at 0 a;at 1 b;at 999999999 a").crowd(1, 1), 0);
        is(of("at 7 a;at 20 a;at 9 b").crowd(1, 1), 7);
        is(new DayRows().crowd(1, 1), -2);
        is(new DayRows().crowd(LAST, 1), -2);
    }

    @Edge(in = "Promise 38", says = "NONE without these")
    static void crowdWithoutThese() {
        DayRows x = of("at 0 a;at 4 a");
        for (int what = 0; what < 2; what++) {
            is(x.crowd(0, what), NONE);
            is(x.crowd(-1, what), NONE);
            is(x.crowd(LAST + 1, what), NONE);
        }
        is(x.crowd(1, -1), NONE);
        is(x.crowd(1, 2), NONE);
        for (int odd : ODD) {
            is(x.crowd(odd, 0), NONE);
            is(x.crowd(1, odd), NONE);
        }
    }

    @Edge(in = "Promise 39", says = "The NAME that would be TAKEN most often by n (1 to 300) TAKES from now on (fewer, if none WAITS then), of several the least, what 0: which, 1: how often")
    static void busiestAtItsEdges() {
        DayRows x = of("at 5 b;at 6 a;at 7 a;at 8 b;at 9 c");
        String before = state(x);
        is(x.busiest(1, 0), 0);
        is(x.busiest(2, 0), 0);
        is(x.busiest(2, 1), 1);
        is(x.busiest(3, 0), 1);
        is(x.busiest(3, 1), 2);
        is(x.busiest(4, 0), 0);
        is(x.busiest(300, 0), 0);
        is(x.busiest(300, 1), 2);
        unchanged(x, before);
        is(endless().busiest(300, 1), 300);
        is(endless().busiest(1, 1), 1);
        DayRows taken = of("at 5 a;at 6 a;at 7 b");
        taken.take(2);
        is(taken.busiest(300, 0), 1);
        is(taken.busiest(300, 1), 1);
        is(full().busiest(300, 1), 200);
        DayRows sixteenth = names(16);
        sixteenth.push(15, 5);
        is(sixteenth.busiest(1, 0), 15);
    }

    @Edge(in = "Promise 39", says = "-2: none WAITS")
    static void busiestOfNone() {
        DayRows x = of("at 5 a");
        x.take(1);
        is(x.busiest(1, 0), -2);
        is(x.busiest(300, 1), -2);
        is(new DayRows().busiest(1, 0), -2);
    }

    @Edge(in = "Promise 39", says = "NONE for others")
    static void busiestOfOthers() {
        DayRows x = endless();
        for (int what = 0; what < 2; what++) {
            is(x.busiest(0, what), NONE);
            is(x.busiest(-1, what), NONE);
            is(x.busiest(301, what), NONE);
        }
        is(x.busiest(1, -1), NONE);
        is(x.busiest(1, 2), NONE);
        for (int odd : ODD) {
            is(x.busiest(odd, 0), NONE);
            is(x.busiest(1, odd), NONE);
        }
    }

    /** Thirteen names, each of which brings the next one by a rule; those ahead come by the later rules. */
    private static DayRows chain() {
        DayRows x = names(14);
        for (int rule = 0; rule < 12; rule++) {
            is(x.rule(11 - rule, 12 - rule, 999999), rule);
        }
        return x;
    }

    @Edge(in = "Promise 40", says = "Whether what is TAKEN of a NAME can bring one of another one, by RULES, one behind the other (1, 0; of itself only by some)")
    static void leadsByOneRuleAndByTwelve() {
        DayRows x = of("after a in 5 b;after c in 6 c");
        is(x.leads(0, 1), 1);
        is(x.leads(1, 0), 0);
        is(x.leads(0, 0), 0);
        is(x.leads(1, 1), 0);
        is(x.leads(2, 2), 1);
        is(x.leads(0, 2), 0);
        is(chain().leads(0, 12), 1);
        is(chain().leads(12, 0), 0);
        is(chain().leads(0, 13), 0);
        is(chain().leads(13, 13), 0);
        x.rule(1, 0, 5);
        is(x.leads(0, 0), 1);
        is(x.leads(1, 1), 1);
        DayRows none = names(2);
        is(none.leads(0, 1), 0);
        is(none.leads(0, 0), 0);
    }

    @Edge(in = "Promise 40", says = "NONE without these")
    static void leadsWithoutThese() {
        DayRows x = of("after a in 5 b");
        for (int name : new int[] {-1, 2, 16, LEAST_INT, MOST_INT}) {
            is(x.leads(name, 0), NONE);
            is(x.leads(0, name), NONE);
            is(x.leads(name, name), NONE);
        }
    }

    @Edge(in = "Promise 41", says = "The fewest HOURS in which that can be")
    static void soonestByOneRuleAndByTwelve() {
        DayRows x = of("after a in 9 b;after a in 1 b;after b in 2 a;after b in 4 b");
        is(x.soonest(0, 1), 1);
        is(x.soonest(0, 0), 3);
        is(x.soonest(1, 1), 3);
        is(x.soonest(1, 0), 2);
        is(chain().soonest(0, 12), 12 * 999999);
        DayRows longer = of("after a in 999999 b;after a in 5 c;after c in 5 d;after d in 5 b");
        is(longer.soonest(0, 1), 15);
    }

    @Edge(in = "Promise 41", says = "-2: it cannot")
    static void soonestCannotBe() {
        DayRows x = of("after a in 9 b;after c in 9 c");
        is(x.soonest(1, 0), -2);
        is(x.soonest(0, 0), -2);
        is(x.soonest(0, 2), -2);
        is(chain().soonest(12, 0), -2);
        is(names(1).soonest(0, 0), -2);
    }

    @Edge(in = "Promise 41", says = "NONE without these")
    static void soonestWithoutThese() {
        DayRows x = of("after a in 9 b");
        for (int name : new int[] {-1, 2, 16, LEAST_INT, MOST_INT}) {
            is(x.soonest(name, 0), NONE);
            is(x.soonest(0, name), NONE);
            is(x.soonest(name, name), NONE);
        }
    }

    @Edge(in = "Promise 42", says = "How many THINGS are DUE in the k-th DAY (0 to 999) from that of NOW (0) on")
    static void dayAtItsEdges() {
        DayRows x = of("at 15 a;at 18 a;at 19 b;at 20 b;at 9999 a;at 10000 a;at 10009 b;at 10010 b");
        is(x.day(0), 0);
        is(x.day(1), 3);
        is(x.day(999), 1);
        x.take(1);
        is(x.day(0), 2);
        is(x.day(1), 1);
        is(x.day(2), 0);
        is(x.day(999), 2);
        is(x.day(998), 1);
        DayRows last = of("wide 1;at 999999999 a;at 999999999 a");
        last.take(1);
        is(last.day(0), 1);
        is(last.day(999), 0);
        DayRows wide = of("wide 99999999;at 0 a;at 99999998 a;at 99999999 a;at 999999999 a");
        is(wide.day(0), 2);
        is(wide.day(1), 1);
        is(wide.day(10), 1);
        is(wide.day(999), 0);
    }

    @Edge(in = "Promise 42", says = "NONE for others")
    static void dayOfOthers() {
        DayRows x = of("at 15 a;at 10005 a");
        is(x.day(-1), NONE);
        is(x.day(1000), NONE);
        for (int odd : ODD) {
            is(x.day(odd), NONE);
        }
    }

    @Edge(in = "Promise 43", says = "The earliest HOUR, from one on, from which on nothing that WAITS is DUE in so many (1 to 999999999) HOURS")
    static void freeAtItsEdges() {
        DayRows x = of("at 0 a;at 5 a;at 5 b;at 10 a");
        is(x.free(1, 0), 1);
        is(x.free(4, 0), 1);
        is(x.free(5, 0), 11);
        is(x.free(4, 1), 1);
        is(x.free(4, 2), 6);
        is(x.free(3, 2), 2);
        is(x.free(1, 5), 6);
        is(x.free(1, 10), 11);
        is(x.free(999999989, 0), 11);
        is(new DayRows().free(LAST, 0), 0);
        is(new DayRows().free(1, LAST), LAST);
        is(full().free(1, 0), 200);
    }

    @Edge(in = "Promise 43", says = "-2: there is none such (the last of these above 999999999)")
    static void freeNowhere() {
        DayRows x = of("at 0 a;at 5 a;at 5 b;at 10 a");
        is(x.free(999999990, 0), -2);
        is(x.free(LAST, 0), -2);
        is(x.free(2, LAST), -2);
        is(x.free(1, LAST), LAST);
        is(x.free(LAST, LAST), -2);
        is(new DayRows().free(LAST, 1), 1);
        is(new DayRows().free(LAST, 2), -2);
        is(of("at 999999999 a").free(1, LAST), -2);
        is(of("at 999999999 a").free(2, LAST - 1), -2);
        is(of("at 999999999 a").free(LAST, 0), 0);
        is(of("at 999999998 a").free(2, 0), 0);
        is(of("at 999999998 a").free(LAST, 0), -2);
        is(of("at 999999998 a").free(1, LAST - 1), LAST);
    }

    @Edge(in = "Promise 43", says = "NONE without these")
    static void freeWithoutThese() {
        DayRows x = of("at 5 a");
        is(x.free(0, 0), NONE);
        is(x.free(-1, 0), NONE);
        is(x.free(LAST + 1, 0), NONE);
        is(x.free(1, -1), NONE);
        is(x.free(1, LAST + 1), NONE);
        for (int odd : ODD) {
            is(x.free(odd, 0), NONE);
            is(x.free(1, odd), NONE);
        }
    }

    @Edge(in = "Promise 44", says = "Of two that WAIT, one next to the other, with the least GAP, of several the first ones, what 0: GAP, 1: the NUMBER of the first")
    static void pairOfTheFirstAndOfTheLast() {
        DayRows x = of("at 999999999 a;at 0 a");
        is(x.pair(0), LAST);
        is(x.pair(1), 1);
        x = of("at 0 a;at 9 a;at 14 b;at 19 b");
        is(x.pair(0), 5);
        is(x.pair(1), 1);
        x.push(0, 19);
        is(x.pair(0), 0);
        is(x.pair(1), 3);
        x.push(0, 0);
        is(x.pair(0), 0);
        is(x.pair(1), 0);
    }

    @Edge(in = "Promise 44", says = "-2: fewer than two WAIT")
    static void pairOfFewerThanTwo() {
        DayRows x = of("at 5 a;at 7 a");
        is(x.pair(0), 2);
        x.take(1);
        is(x.pair(0), -2);
        is(x.pair(1), -2);
        x.take(1);
        is(x.pair(0), -2);
        is(x.pair(1), -2);
        is(new DayRows().pair(0), -2);
    }

    @Edge(in = "Promise 44", says = "NONE for others")
    static void pairOfOthers() {
        DayRows x = of("at 5 a;at 7 a");
        is(x.pair(-1), NONE);
        is(x.pair(2), NONE);
        for (int odd : ODD) {
            is(x.pair(odd), NONE);
        }
        is(new DayRows().pair(2), NONE);
    }

    @Edge(in = "Promise 45", says = "The HOUR at which a NAME would be TAKEN for the m-th time (1 to 99) from now on, by 300 TAKES at the most")
    static void whenAtItsEdges() {
        DayRows x = endless();
        String before = state(x);
        is(x.when(0, 1), 0);
        is(x.when(0, 99), 980);
        unchanged(x, before);
        x.take(1);
        is(x.when(0, 1), 10);
        is(x.when(0, 99), 990);
        DayRows late = of("at 0 a;after a in 1 a;at 300 b;at 299 c");
        is(late.when(1, 1), -2);
        is(late.cancel(1), 2);
        is(late.when(2, 1), 299);
        is(late.postpone(2, 298), 299);
        is(late.push(1, 299), 3);
        is(late.when(1, 1), -2);
        is(late.cancel(2), 2);
        is(late.when(1, 1), 299);
    }

    @Edge(in = "Promise 45", says = "-2: it would not")
    static void whenItWouldNot() {
        DayRows x = of("at 5 a;at 7 a;after b in 1 b");
        is(x.when(0, 2), 7);
        is(x.when(0, 3), -2);
        is(x.when(0, 99), -2);
        is(x.when(1, 1), -2);
        x.take(1);
        is(x.when(0, 1), 7);
        is(x.when(0, 2), -2);
        is(names(1).when(0, 1), -2);
    }

    @Edge(in = "Promise 45", says = "NONE without these")
    static void whenWithoutThese() {
        DayRows x = endless();
        for (int name : new int[] {-1, 1, 16, LEAST_INT, MOST_INT}) {
            is(x.when(name, 1), NONE);
        }
        for (int m : new int[] {-1, 0, 100, LEAST_INT, MOST_INT}) {
            is(x.when(0, m), NONE);
        }
    }

    @Edge(in = "Promise 46", says = "Whether what WAITS (what 0; NUMBERS, NAMES, HOURS), the RULES (what 1) are as on a SHELF (1, 0)")
    static void sameWithNoneAndWithAll() {
        DayRows x = new DayRows();
        x.keep(0);
        is(x.same(0, 0), 1);
        is(x.same(0, 1), 1);
        DayRows two = of("at 5 a;at 9 b");
        two.keep(0);
        two.postpone(0, 6);
        is(two.same(0, 0), 0);
        two.undo();
        two.postpone(1, 10);
        is(two.same(0, 0), 0);
        two.undo();
        two.swap(0, 1);
        is(two.same(0, 0), 0);
        two.undo();
        is(two.same(0, 0), 1);
        DayRows full = full();
        full.keep(1);
        is(full.same(1, 0), 1);
        full.postpone(199, 200);
        is(full.same(1, 0), 0);
        is(full.same(1, 1), 1);
        full.postpone(199, 199);
        is(full.same(1, 0), 1);
        full.cancel(199);
        is(full.same(1, 0), 0);
        full.push(0, 199);
        is(full.same(1, 0), 0);
        full.back(1);
        full.merge(0, 1);
        is(full.same(1, 0), 0);
        is(full.same(1, 1), 1);
        full.unrule(0);
        is(full.same(1, 1), 0);
        full.rule(1, 1, 2);
        is(full.same(1, 1), 0);
        full.rule(1, 1, 1);
        full.unrule(0);
        is(full.same(1, 1), 1);
        full.rule(1, 1, 1);
        is(full.same(1, 1), 0);
    }

    @Edge(in = "Promise 46", says = "-2: nothing is KEPT on it")
    static void sameAsNothing() {
        DayRows x = of("at 5 a");
        is(x.same(0, 0), -2);
        is(x.same(1, 1), -2);
        x.keep(1);
        is(x.same(0, 0), -2);
        is(x.same(0, 1), -2);
        is(x.same(1, 0), 1);
    }

    @Edge(in = "Promise 46", says = "NONE without these")
    static void sameWithoutThese() {
        DayRows x = of("at 5 a");
        x.keep(0);
        x.keep(1);
        for (int shelf : new int[] {-1, 2, 31, 32, 33, LEAST_INT, MOST_INT}) {
            is(x.same(shelf, 0), NONE);
            is(x.same(shelf, 1), NONE);
        }
        is(x.same(0, -1), NONE);
        is(x.same(0, 2), NONE);
        for (int odd : ODD) {
            is(x.same(0, odd), NONE);
        }
    }

    @Edge(in = "Promise 47", says = "The k-th byte of the CALENDAR as a TEXT: rows, wide; at of each that WAITS (AHEAD first); after of each RULE; "
        + "one blank between WORDS and NUMBERS, ; without blanks")
    static void toldFromTheLeastToTheMost() {
        DayRows x = of("after rows in 999999 a;at 999999999 abcdef;at 0 a;wide 1;rows 2");
        text(x, "rows 2;wide 1;at 0 a;at 999999999 abcdef;after rows in 999999 a");
        text(new DayRows(), "rows 4;wide 10");
        text(of("wide 99999999;rows 64;after zzzzzz in 1 zzzzzz"), "rows 64;wide 99999999;after zzzzzz in 1 zzzzzz");
        text(of("at 1000000 a;at 100 b;at 10 c;wide 100000"), "rows 4;wide 100000;at 10 c;at 100 b;at 1000000 a");
    }

    @Edge(in = "Promise 47", says = "k NONE: how many")
    static void toldHowMany() {
        is(new DayRows().told(NONE), 14);
        is(of("at 999999999 abcdef").told(NONE), 14 + 20);
        is(full().told(NONE), "rows 64;wide 3".length() + 10 * 7 + 90 * 8 + 100 * 9 + ";after b in 1 b".length());
    }

    @Edge(in = "Promise 47", says = "-2: it has not so many")
    static void toldNotSoMany() {
        DayRows x = new DayRows();
        is(x.told(13), '0');
        is(x.told(14), -2);
        is(x.told(MOST_INT), -2);
        DayRows full = full();
        int length = full.told(NONE);
        is(full.told(length - 1), 'b');
        is(full.told(length), -2);
    }

    @Edge(in = "Promise 47", says = "NONE for others")
    static void toldOfOthers() {
        DayRows x = of("at 5 a");
        is(x.told(-2), NONE);
        is(x.told(-3), NONE);
        is(x.told(LEAST_INT), NONE);
    }

    @Edge(in = "Promise 48", says = "The HOUR at which, or ahead of which, p hundredths (1 to 100) of all that WAIT are DUE (of how many, times p by 100, upwards, the last one's HOUR, AHEAD first)")
    static void shareAtItsEdges() {
        DayRows x = of("at 30 a;at 10 a;at 20 b");
        is(x.share(1), 10);
        is(x.share(33), 10);
        is(x.share(34), 20);
        is(x.share(66), 20);
        is(x.share(67), 30);
        is(x.share(100), 30);
        DayRows full = full();
        is(full.share(1), 1);
        is(full.share(2), 3);
        is(full.share(99), 197);
        is(full.share(100), 199);
        DayRows hundred = of("every 2 from 0 times 50 a;every 2 from 1 times 50 a");
        is(hundred.share(1), 0);
        is(hundred.share(100), 99);
        DayRows more = of("every 2 from 0 times 50 a;every 2 from 1 times 50 a;at 100 a");
        is(more.share(1), 1);
        is(more.share(99), 99);
        is(more.share(100), 100);
        is(of("at 7 a").share(1), 7);
    }

    @Edge(in = "Promise 48", says = "-2: none WAITS")
    static void shareOfNone() {
        is(new DayRows().share(1), -2);
        is(new DayRows().share(100), -2);
        DayRows x = of("at 7 a");
        x.take(1);
        is(x.share(50), -2);
    }

    @Edge(in = "Promise 48", says = "NONE for others")
    static void shareOfOthers() {
        DayRows x = of("at 7 a");
        is(x.share(0), NONE);
        is(x.share(-1), NONE);
        is(x.share(101), NONE);
        for (int odd : ODD) {
            is(x.share(odd), NONE);
        }
    }

    @Edge(in = "Promise 49", says = "Of 2, 4, .., 64 ROWS those by which lookBy() with that WIDTH (1 to 99999999) is least, of several the least, what 0: ROWS, 1: LOOKS")
    static void bestRowsAtItsEdges() {
        DayRows x = of("at 5 a;at 15 a;at 35 a;at 85 b");
        is(x.bestRows(10, 0), 2);
        is(x.bestRows(10, 1), 1 + 2 + 4 + 4);
        is(x.bestRows(99999999, 0), 2);
        is(x.bestRows(99999999, 1), 4);
        DayRows year = of("every 33 from 0 times 50 a");
        is(year.bestRows(1, 0), 2);
        is(year.bestRows(1, 1), 1 + 49 * 4);
        is(of("every 3 from 0 times 50 a").bestRows(1, 0), 2);
        is(of("every 2 from 0 times 50 a").bestRows(1, 0), 4);
        is(of("every 2 from 0 times 50 a").bestRows(1, 1), 1 + 49 * 3);
        is(of("at 2 a;at 4 a;at 8 a").bestRows(1, 0), 8);
        DayRows most = of("every 2 from 2 times 50 a;every 2 from 102 times 21 a;every 4 from 146 times 13 a;"
            + "every 8 from 202 times 3 a;at 234 a;at 266 a");
        is(most.bestRows(1, 0), 64);
        is(most.bestRows(1, 1), 71 * 3 + 13 * 5 + 3 * 9 + 17 + 33);
        most.cancel(88);
        is(most.bestRows(1, 0), 32);
        is(most.bestRows(1, 1), 71 * 3 + 13 * 5 + 3 * 9 + 17);
        is(of("every 2 from 2 times 23 a;every 4 from 50 times 3 a;at 66 a").bestRows(1, 0), 16);
        is(new DayRows().bestRows(1, 0), 2);
        is(new DayRows().bestRows(1, 1), 0);
    }

    @Edge(in = "Promise 49", says = "NONE without these")
    static void bestRowsWithoutThese() {
        DayRows x = of("at 5 a;at 15 a");
        for (int width : new int[] {-1, 0, 100000000, LEAST_INT, MOST_INT}) {
            is(x.bestRows(width, 0), NONE);
            is(x.bestRows(width, 1), NONE);
        }
        is(x.bestRows(1, -1), NONE);
        is(x.bestRows(1, 2), NONE);
        for (int odd : ODD) {
            is(x.bestRows(1, odd), NONE);
        }
    }

    @Edge(in = "Promise 50", says = "Did all that WAIT lie in so many ROWS (2, 4, .., 64) of that WIDTH (1 to 99999999), what 0: the most THINGS of a ROW, 1: the first such ROW, 2: ROWS without any")
    static void skewByAtItsEdges() {
        DayRows x = of("at 5 a;at 15 a;at 35 a;at 999999999 b");
        String before = state(x);
        int[][] due = {{3, 1, 0}, {4, 1, 1}, {2, 3, 1}, {3, 0, 62}, {1, 5, 60}};
        for (int what = 0; what < 3; what++) {
            is(x.skewBy(2, 10, what), due[0][what]);
            is(x.skewBy(2, 1, what), due[1][what]);
            is(x.skewBy(4, 10, what), due[2][what]);
            is(x.skewBy(64, 99999999, what), due[3][what]);
            is(x.skewBy(64, 1, what), due[4][what]);
        }
        unchanged(x, before);
        DayRows none = new DayRows();
        is(none.skewBy(64, 1, 0), 0);
        is(none.skewBy(64, 1, 1), 0);
        is(none.skewBy(64, 1, 2), 64);
        is(full().skewBy(2, 99999999, 0), 200);
    }

    @Edge(in = "Promise 50", says = "NONE without these")
    static void skewByWithoutThese() {
        DayRows x = of("at 5 a;at 15 a");
        for (int what = 0; what < 3; what++) {
            for (int rows : new int[] {-2, 0, 1, 3, 6, 63, 65, 128, LEAST_INT, MOST_INT}) {
                is(x.skewBy(rows, 10, what), NONE);
            }
            for (int width : new int[] {-1, 0, 100000000, LEAST_INT, MOST_INT}) {
                is(x.skewBy(4, width, what), NONE);
            }
        }
        is(x.skewBy(4, 10, -1), NONE);
        is(x.skewBy(4, 10, 3), NONE);
        for (int odd : ODD) {
            is(x.skewBy(4, 10, odd), NONE);
        }
    }

    @Edge(in = "Promise 51", says = "The most THINGS that WAIT, one behind the other (AHEAD first), of one NAME, what 0: how many, 1: the NUMBER of the first of them (of several such rows the first; -2: none WAITS)")
    static void longestAtItsEdges() {
        DayRows x = of("at 5 a;at 6 b;at 7 b;at 8 a;at 9 a");
        is(x.longest(0), 2);
        is(x.longest(1), 1);
        x.push(0, 10);
        is(x.longest(0), 3);
        is(x.longest(1), 3);
        x.merge(1, 0);
        is(x.longest(0), 6);
        is(x.longest(1), 0);
        is(of("at 5 b").longest(0), 1);
        is(of("at 5 b;at 4 a").longest(1), 1);
        is(full().longest(0), 200);
        is(full().longest(1), 0);
        is(new DayRows().longest(0), 0);
        is(new DayRows().longest(1), -2);
        DayRows taken = of("at 5 a");
        taken.take(1);
        is(taken.longest(0), 0);
        is(taken.longest(1), -2);
    }

    @Edge(in = "Promise 51", says = "NONE for others")
    static void longestOfOthers() {
        DayRows x = of("at 5 a");
        is(x.longest(-1), NONE);
        is(x.longest(2), NONE);
        for (int odd : ODD) {
            is(x.longest(odd), NONE);
        }
        is(new DayRows().longest(2), NONE);
    }

    @Edge(in = "Promise 52", says = "The k-th RULE of that way of RULES (one at least) by which soonest() is, of several of the fewest RULES, of those the one with the least RULE at the first place at which they are unlike")
    static void waysByOneRuleAndByTwelve() {
        DayRows x = chain();
        is(x.way(0, 12, NONE), 12);
        for (int k = 0; k < 12; k++) {
            is(x.way(0, 12, k), 11 - k);
        }
        DayRows itself = of("after a in 3 b;after b in 3 a;after a in 6 a;after a in 6 a");
        is(itself.way(0, 0, NONE), 1);
        is(itself.way(0, 0, 0), 2);
        is(itself.way(1, 1, NONE), 2);
        is(itself.way(1, 1, 0), 1);
        is(itself.way(1, 1, 1), 0);
        DayRows like = of("after c in 2 d;after b in 2 d;after a in 1 b;after a in 1 c");
        is(like.way(3, 2, NONE), 1);
        is(like.way(3, 1, 0), 2);
        is(like.way(3, 1, 1), 1);
        DayRows ways = of("after b in 2 d;after c in 2 d;after a in 1 c;after a in 1 b");
        is(ways.soonest(3, 1), 3);
        is(ways.way(3, 1, 0), 2);
        is(ways.way(3, 1, 1), 1);
    }

    @Edge(in = "Promise 52", says = "k NONE: how many RULES")
    static void wayHowMany() {
        DayRows x = of("after a in 3 b;after b in 3 c;after a in 6 c;after a in 5 c");
        is(x.way(0, 1, NONE), 1);
        is(x.way(0, 2, NONE), 1);
        is(x.way(0, 2, 0), 3);
        x.unrule(3);
        is(x.way(0, 2, NONE), 1);
        is(x.way(0, 2, 0), 2);
        x.unrule(2);
        is(x.way(0, 2, NONE), 2);
    }

    @Edge(in = "Promise 52", says = "-2: not so many, it cannot be")
    static void wayNotSoLong() {
        DayRows x = of("after a in 3 b;after b in 3 c");
        is(x.way(0, 2, 1), 1);
        is(x.way(0, 2, 2), -2);
        is(x.way(0, 2, MOST_INT), -2);
        is(x.way(0, 0, NONE), -2);
        is(x.way(0, 0, 0), -2);
        is(x.way(2, 0, NONE), -2);
        is(x.way(2, 0, 0), -2);
        is(chain().way(0, 12, 12), -2);
    }

    @Edge(in = "Promise 52", says = "NONE without these, for k below NONE")
    static void wayWithoutThese() {
        DayRows x = of("after a in 3 b;after b in 3 c");
        for (int name : new int[] {-1, 3, 16, LEAST_INT, MOST_INT}) {
            is(x.way(name, 0, 0), NONE);
            is(x.way(0, name, 0), NONE);
            is(x.way(name, name, NONE), NONE);
        }
        is(x.way(0, 1, -2), NONE);
        is(x.way(0, 1, LEAST_INT), NONE);
        is(x.way(1, 0, -2), NONE);
    }

    @Edge(in = "Promise 53", says = "Were all TAKEN that are DUE at an HOUR (0 to 999999999), or earlier (with what they bring; 300 at the most), what 0: how many, 1: LOOKS by all, 2: how many WAIT then")
    static void byAtItsEdges() {
        DayRows x = endless();
        String before = state(x);
        int[][] due = {{1, 1, 1}, {299, 1 + 298 * 2, 1}, {300, 1 + 299 * 2, 1}, {300, 1 + 299 * 2, 1}};
        for (int what = 0; what < 3; what++) {
            is(x.by(0, what), due[0][what]);
            is(x.by(2980, what), due[1][what]);
            is(x.by(2990, what), due[2][what]);
            is(x.by(LAST, what), due[3][what]);
        }
        unchanged(x, before);
        DayRows late = of("at 5 a;at 999999999 b;after b in 1 a");
        is(late.by(4, 0), 0);
        is(late.by(4, 1), 0);
        is(late.by(4, 2), 2);
        is(late.by(5, 0), 1);
        is(late.by(LAST - 1, 2), 1);
        is(late.by(LAST, 0), 2);
        is(late.by(LAST, 1), 1 + 4);
        is(late.by(LAST, 2), 0);
        late.take(1);
        is(late.by(LAST, 0), 1);
        is(late.by(LAST, 1), 4);
        is(full().by(LAST, 0), 200);
        for (int what = 0; what < 3; what++) {
            is(new DayRows().by(LAST, what), 0);
        }
    }

    @Edge(in = "Promise 53", says = "NONE for others")
    static void byOthers() {
        DayRows x = endless();
        for (int what = 0; what < 3; what++) {
            is(x.by(-1, what), NONE);
            is(x.by(LAST + 1, what), NONE);
        }
        is(x.by(0, -1), NONE);
        is(x.by(0, 3), NONE);
        for (int odd : ODD) {
            is(x.by(odd, 0), NONE);
            is(x.by(0, odd), NONE);
        }
    }

    @Edge(in = "Promise 54", says = "A number of all: 17 at first")
    static void digestOfNone() {
        is(new DayRows().digest(), 17);
        DayRows x = of("at 5 a");
        x.take(1);
        is(x.digest(), 17);
    }

    @Edge(in = "Promise 54", says = "of each that WAITS (AHEAD first) 31 times it and its NUMBER, NAME, HOUR, one by one (longs, which go round)")
    static void digestGoesRound() {
        is(of("at 0 a").digest(), 17L * 31 * 31 * 31);
        DayRows x = of("at 999999999 a;at 7 b");
        is(x.digest(), (((((17L * 31 + 1) * 31 + 1) * 31 + 7) * 31 + 0) * 31 + 0) * 31 + LAST);
        long due = 17;
        for (int k = 0; k < 200; k++) {
            due = (due * 31 + k) * 31 * 31 + k;
        }
        is(full().digest(), due);
    }

    @Edge(in = "Promise 55", says = "What 0: how many WAIT, 1: ROWS, 2: WIDTH, 3: NOW, 4: NAMES, 5: RULES, 6: ACTS that can be UNDONE, 7: bytes of the TAPE, "
        + "8: SHELVES on which something is KEPT, as bits, 9: the NUMBER that comes next")
    static void countsAtTheirEdges() {
        DayRows x = names(16);
        is(x.count(4), 16);
        is(x.count(6), 10);
        for (int rule = 0; rule < 12; rule++) {
            x.rule(0, 1, 5);
        }
        is(x.count(5), 12);
        x.push(2, LAST);
        x.take(1);
        is(x.count(3), LAST);
        is(x.count(9), 1);
        for (int n = 0; n < 20; n++) {
            x.feed(0, 0, 0, 0, 0);
        }
        is(x.count(7), 400);
        x.resize(64, 99999999);
        is(x.count(1), 64);
        is(x.count(2), 99999999);
        is(x.count(8), 0);
        x.keep(0);
        is(x.count(8), 1);
        x.keep(1);
        is(x.count(8), 3);
        DayRows full = full();
        is(full.count(0), 200);
        is(full.count(9), 200);
        full.keep(1);
        is(full.count(8), 2);
    }

    @Edge(in = "Promise 55", says = "NONE for others")
    static void countOfOthers() {
        DayRows x = of("at 5 a");
        is(x.count(-1), NONE);
        is(x.count(10), NONE);
        for (int odd : ODD) {
            is(x.count(odd), NONE);
        }
    }
}
