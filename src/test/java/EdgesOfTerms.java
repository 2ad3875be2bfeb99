/** The edges that the terms of the document name, but for those of texts (EdgesOfTexts). */
final class EdgesOfTerms extends Checks {
    private static final int[] ALL_ROWS = {2, 4, 8, 16, 32, 64};
    private static final int MOST_WIDTH = 99999999;

    private EdgesOfTerms() { }

    /** So many things at like gaps in so many rows, of which none was laid anew. */
    private static DayRows waiting(int rows, int many) {
        DayRows x = of("rows " + rows + ";after a in 1 a");
        is(x.unrule(0), 0);
        for (int made = 0; made < many; made += 50) {
            is(x.series(0, 5, 5 * made, Math.min(50, many - made)), made);
        }
        is(x.count(0), many);
        return x;
    }

    @Edge(in = "I.", says = "1 to 6 letters a to z")
    static void namesHaveOneToSixLetters() {
        DayRows x = new DayRows();
        is(name(x, ""), -2);
        is(name(x, "a"), 0);
        is(name(x, "z"), 1);
        is(name(x, "azazaz"), 2);
        is(name(x, "azazaza"), -2);
        is(name(x, "`"), -2);
        is(name(x, "{"), -2);
        is(x.count(4), 3);
    }

    @Edge(in = "I.", says = "16 unlike ones at the most")
    static void sixteenNamesAtTheMost() {
        DayRows x = names(16);
        is(x.count(4), 16);
        is(name(x, "q"), -3);
        is(name(x, "p"), 15);
        is(name(x, "a"), 0);
        is(x.count(4), 16);
        is(x.letter(15, 0), 'p');
        is(x.letter(16, 0), NONE);
    }

    @Edge(in = "I.", says = "numbered as they are told first")
    static void namesAreNumberedAsToldFirst() {
        DayRows x = of("after c in 5 b;at 9 a;at 5 b;every 1 from 5 times 1 d");
        for (int name = 0; name < 4; name++) {
            is(x.letter(name, 0), "cbad".charAt(name));
        }
        is(name(x, "e"), 4);
        is(name(x, "b"), 1);
    }

    @Edge(in = "I.", says = "DUE at an HOUR 0 to 999999999")
    static void hoursFromNoneToTheLast() {
        DayRows x = names(1);
        is(x.push(0, 0), 0);
        is(x.push(0, LAST), 1);
        is(x.push(0, -1), NONE);
        is(x.push(0, LAST + 1), NONE);
        is(x.push(0, LEAST_INT), NONE);
        is(x.push(0, MOST_INT), NONE);
        hours(x, 0, LAST);
    }

    @Edge(in = "I.", says = "a NUMBER (as it came, from 0 on, never twice)")
    static void noNumberTwice() {
        DayRows x = of("at 7 a;after a in 5 a");
        is(x.push(0, 3), 1);
        is(x.cancel(1), 1);
        is(x.push(0, 3), 2);
        is(x.take(1), 1);
        is(x.of(3, 2), 8);
        is(x.clear(0), 2);
        is(x.count(9), 4);
        is(x.push(0, 3), 4);
        is(x.series(0, 1, 3, 3), 5);
        is(x.count(9), 8);
    }

    @Edge(in = "I.", says = "At most 200 WAIT at once")
    static void twoHundredWaitAtTheMost() {
        DayRows x = names(1);
        for (int made = 0; made < 150; made += 50) {
            is(x.series(0, 1, 0, 50), made);
        }
        is(x.series(0, 1, 0, 49), 150);
        is(x.series(0, 1, 0, 2), -3);
        is(x.push(0, 9), 199);
        is(x.push(0, 9), -3);
        is(x.series(0, 1, 0, 1), -3);
        is(x.count(0), 200);
        is(x.count(9), 200);
        is(x.next(199, 2), 49);
        is(x.next(200, 2), NONE);
    }

    @Edge(in = "I.", says = "at like HOURS the lesser NUMBER")
    static void atLikeHoursTheLesserNumber() {
        DayRows x = of("at 9 a;at 9 a;at 5 a");
        order(x, 2, 0, 1);
        is(x.postpone(2, 9), 5);
        order(x, 0, 1, 2);
        is(x.postpone(0, 10), 9);
        is(x.postpone(0, 9), 10);
        order(x, 0, 1, 2);
        is(x.row(0, 0), 0);
        is(x.of(2, 4), 2);
    }

    @Edge(in = "I.", says = "NOW: the HOUR of the last one that was TAKEN (0 at first)")
    static void nowIsOfTheLastThatWasTaken() {
        DayRows x = of("at 7 a;at 9 a;at 12 a");
        is(x.count(3), 0);
        is(x.take(1), 1);
        is(x.count(3), 7);
        is(x.cancel(1), 1);
        is(x.count(3), 7);
        is(x.until(20), 1);
        is(x.count(3), 12);
    }

    @Edge(in = "I.", says = "nothing comes that is DUE ahead of NOW")
    static void nothingComesAheadOfNow() {
        DayRows x = of("at 7 a;at 9 a");
        is(x.take(1), 1);
        String before = state(x);
        is(x.push(0, 6), -2);
        is(x.push(0, 0), -2);
        is(x.series(0, 5, 6, 2), -2);
        is(x.postpone(1, 6), -2);
        unchanged(x, before);
        is(x.push(0, 7), 2);
        is(x.series(0, 5, 7, 2), 3);
        is(x.postpone(1, 7), 9);
        hours(x, 7, 7, 7, 12);
    }

    @Edge(in = "I.", says = "2, 4, 8, .., 64 ROWS")
    static void rowsAreTheSixPowers() {
        DayRows x = new DayRows();
        int before = 4;
        for (int rows : new int[] {2, 4, 8, 16, 32, 64}) {
            is(x.resize(rows, 7), before);
            is(x.count(1), rows);
            before = rows;
        }
        for (int rows : new int[] {0, 1, 3, 5, 6, 7, 9, 12, 24, 48, 63, 65, 128, -2, -64, LEAST_INT, MOST_INT, 1 << 30}) {
            is(x.resize(rows, 8), NONE);
            is(x.lookBy(rows, 8), NONE);
            is(x.skewBy(rows, 8, 0), NONE);
            is(x.best(rows, 0), NONE);
        }
        is(x.count(1), 64);
        is(x.count(2), 7);
    }

    @Edge(in = "I.", says = "WIDTH 1 to 99999999 HOURS")
    static void widthFromOneToTheMost() {
        DayRows x = new DayRows();
        is(x.resize(4, 1), 4);
        is(x.count(2), 1);
        is(x.resize(4, MOST_WIDTH), 4);
        is(x.count(2), MOST_WIDTH);
        for (int width : new int[] {0, -1, MOST_WIDTH + 1, LEAST_INT, MOST_INT}) {
            is(x.resize(4, width), NONE);
            is(x.lookBy(4, width), NONE);
            is(x.skewBy(4, width, 0), NONE);
            is(x.bestRows(width, 0), NONE);
        }
        is(x.count(2), MOST_WIDTH);
    }

    @Edge(in = "I.", says = "a THING lies in ROW (DUE / WIDTH) % ROWS")
    static void rowsGoRound() {
        DayRows x = of("at 0 a;at 9 a;at 10 a;at 39 a;at 40 a;at 79 a;at 80 a;at 999999999 a");
        int[] due = {0, 0, 1, 3, 0, 3, 0, 3};
        for (int number = 0; number < due.length; number++) {
            is(x.of(number, 3), due[number]);
            is(x.next(number, 3), due[number]);
        }
        is(x.row(0, NONE), 4);
        is(x.row(2, NONE), 0);
        is(x.resize(64, 1), 4);
        is(x.of(7, 3), LAST % 64);
        is(x.resize(64, MOST_WIDTH), 64);
        is(x.of(7, 3), 10);
        is(x.of(6, 3), 0);
    }

    @Edge(in = "I.", says = "in each those AHEAD first")
    static void inEachRowThoseAheadFirst() {
        DayRows x = of("at 45 a;at 85 a;at 5 a;at 45 a;at 4 a");
        for (int k = 0; k < 5; k++) {
            is(x.row(0, k), new int[] {4, 2, 0, 3, 1}[k]);
        }
        is(x.of(3, 4), 3);
        is(x.of(4, 4), 0);
    }

    @Edge(in = "I.", says = "4 ROWS, WIDTH 10 at first")
    static void fourRowsOfTenAtFirst() {
        DayRows x = new DayRows();
        laid(x, 4, 10, 0, 0, 0);
        is(x.row(3, NONE), 0);
        is(x.row(4, NONE), NONE);
        is(x.resize(4, 10), -2);
    }

    @Edge(in = "II.", says = "DAY by DAY from that of NOW on")
    static void lookedForFromTheDayOfNow() {
        DayRows x = of("at 19 a;at 19 b;at 20 a;at 29 a");
        is(x.take(1), 1);
        is(x.log(0, 3), 2);
        is(x.take(1), 1);
        is(x.log(0, 3), 1);
        is(x.take(1), 1);
        is(x.log(0, 3), 2);
        is(x.take(1), 1);
        is(x.log(0, 3), 1);
    }

    @Edge(in = "II.", says = "is the first THING of its ROW DUE ahead of the DAY's end")
    static void aThingOfALaterYearIsNotOfTheDay() {
        DayRows x = of("at 40 a;at 49 a;at 12 a");
        is(x.looks(), 2);
        is(x.take(1), 1);
        is(x.log(0, 0), 2);
        is(x.looks(), 4);
        is(x.take(1), 1);
        is(x.log(0, 0), 0);
        is(x.looks(), 1);
    }

    @Edge(in = "II.", says = "((NOW / WIDTH and 1) times WIDTH, one WIDTH more each DAY)")
    static void theEndOfADayIsOfTheNext() {
        is(of("at 9 a").looks(), 1);
        is(of("at 10 a").looks(), 2);
        is(of("at 19 a").looks(), 2);
        is(of("at 20 a").looks(), 3);
        DayRows x = of("at 9 b;at 10 a");
        x.take(1);
        is(x.looks(), 2);
        DayRows last = of("wide 99999999;at 999999990 a;at 999999999 a");
        is(last.take(1), 1);
        is(last.log(0, 3), 8);
        is(last.looks(), 1);
        is(last.take(1), 1);
        is(last.count(3), LAST);
    }

    @Edge(in = "II.", says = "Is none found in as many DAYS as there are ROWS, the one that is AHEAD of all others is TAKEN (a JUMP)")
    static void behindAYearItJumps() {
        for (int rows : ALL_ROWS) {
            DayRows x = of("rows " + rows + ";wide 3;at " + (3 * rows - 1) + " a");
            is(x.looks(), rows);
            is(x.take(1), 1);
            is(x.total(2), 0);
            DayRows jumps = of("rows " + rows + ";wide 3;at " + (3 * rows + 1) + " b;at " + 3 * rows + " a");
            is(jumps.looks(), 2 * rows);
            is(jumps.take(1), 1);
            is(jumps.log(0, 0), 1);
            is(jumps.total(2), 1);
        }
    }

    @Edge(in = "II.", says = "LOOKS: one for each DAY that is looked at, at a JUMP as many more as there are ROWS")
    static void looksOfAJump() {
        DayRows x = of("at 39 a;at 78 a;at 119 a");
        is(x.take(1), 1);
        is(x.log(0, 3), 4);
        is(x.take(1), 1);
        is(x.log(0, 3), 8);
        is(x.count(1), 2);
        is(x.take(1), 1);
        is(x.log(0, 3), 4);
        is(x.total(0), 16);
        is(x.total(2), 2);
    }

    @Edge(in = "II.", says = "NOW is its HOUR then")
    static void nowIsItsHour() {
        DayRows x = of("at 0 a;at 999999999 a");
        is(x.take(1), 1);
        is(x.count(3), 0);
        is(x.take(1), 1);
        is(x.count(3), LAST);
        is(x.push(0, LAST), 2);
        is(x.push(0, LAST - 1), -2);
    }

    @Edge(in = "II.", says = "brings by each RULE of its NAME, in order, one of the other NAME, DUE GAP later")
    static void whatIsTakenBringsInOrderOfRules() {
        DayRows x = of("at 5 a;after a in 9 b;after b in 1 c;after a in 1 a;after a in 9 c");
        is(x.take(1), 1);
        order(x, 2, 1, 3);
        hours(x, 6, 14, 14);
        is(x.of(1, 1), 1);
        is(x.of(2, 1), 0);
        is(x.of(3, 1), 2);
    }

    @Edge(in = "II.", says = "LOST, if 200 WAIT")
    static void lostIfTwoHundredWait() {
        DayRows x = full();
        is(x.rule(0, 1, 900), 1);
        is(x.take(1), 1);
        is(x.count(0), 200);
        is(x.total(6), 0);
        is(x.rule(0, 1, 900), 2);
        is(x.rule(0, 0, 900), 3);
        is(x.take(1), 1);
        is(x.count(0), 200);
        is(x.total(6), 2);
        is(x.named(1, 4), 1);
        is(x.named(0, 4), 1);
        is(x.count(9), 202);
        is(x.named(1, 0), 2);
    }

    @Edge(in = "II.", says = "or the HOUR would be above 999999999")
    static void lostAboveTheLastHour() {
        DayRows x = of("at 999000000 a;after a in 999999 b;after b in 1 c");
        is(x.take(1), 1);
        is(x.total(6), 0);
        hours(x, LAST);
        is(x.take(1), 1);
        is(x.total(6), 1);
        is(x.named(2, 4), 1);
        is(x.count(0), 0);
        DayRows above = of("at 999000001 a;after a in 999999 b");
        is(above.take(1), 1);
        is(above.total(6), 1);
        is(above.count(0), 0);
    }

    @Edge(in = "II.", says = "do more WAIT than 2 times ROWS")
    static void growsAboveTwiceTheRows() {
        for (int rows : new int[] {2, 4, 8, 16, 32}) {
            DayRows x = waiting(rows, 2 * rows);
            laid(x, rows, 10, 0, 0, 0);
            is(x.push(0, 10 * rows), 2 * rows);
            laid(x, 2 * rows, 15, 2 * rows + 1, 1, 0);
        }
    }

    @Edge(in = "II.", says = "are there fewer than 64 ROWS, there are twice as many ROWS, WIDTH anew")
    static void atSixtyFourRowsNothingGrows() {
        DayRows x = waiting(64, 200);
        laid(x, 64, 10, 0, 0, 0);
        x = waiting(32, 65);
        laid(x, 64, 15, 65, 1, 0);
        is(x.series(0, 5, 400, 50), 65);
        is(x.series(0, 5, 700, 50), 115);
        is(x.push(0, 400), 165);
        laid(x, 64, 15, 65, 1, 0);
    }

    @Edge(in = "II.", says = "behind each that goes (is TAKEN, ahead of what it brings; cancelled)")
    static void shrinksAheadOfWhatIsBrought() {
        DayRows x = of("rows 8;at 0 a;at 10 a;at 20 a;at 30 a;after a in 40 b");
        is(x.take(1), 1);
        laid(x, 4, 30, 3, 0, 1);
        is(x.count(0), 4);
        is(x.next(3, 3), 1);
        DayRows back = of("rows 4;at 0 a;at 10 b;after a in 1 b;after a in 2 b;after a in 3 b;after a in 4 b");
        is(back.take(1), 1);
        laid(back, 4, 3, 1 + 5, 1, 1);
    }

    @Edge(in = "II.", says = "do fewer WAIT than half of ROWS")
    static void shrinksBelowHalfOfTheRows() {
        for (int rows : new int[] {4, 8, 16, 32, 64}) {
            int half = rows / 2;
            DayRows cancelled = waiting(rows, half + 1);
            is(cancelled.cancel(half), half);
            laid(cancelled, rows, 10, 0, 0, 0);
            is(cancelled.cancel(0), half - 1);
            laid(cancelled, half, half - 1 < 2 ? 10 : 15, half - 1, 0, 1);
            DayRows taken = waiting(rows, half + 1);
            is(taken.take(1), 1);
            laid(taken, rows, 10, 0, 0, 0);
            is(taken.take(1), 1);
            laid(taken, half, half - 1 < 2 ? 10 : 15, half - 1, 0, 1);
        }
    }

    @Edge(in = "II.", says = "are there more than 2 ROWS, there are half as many, WIDTH anew")
    static void atTwoRowsNothingShrinks() {
        DayRows x = of("rows 2;at 5 a;at 9 a");
        is(x.cancel(0), 1);
        is(x.take(1), 1);
        is(x.count(0), 0);
        laid(x, 2, 10, 0, 0, 0);
        DayRows four = of("at 5 a;at 9 a");
        is(four.cancel(0), 1);
        laid(four, 2, 10, 1, 0, 1);
        is(four.cancel(1), 0);
        laid(four, 2, 10, 1, 0, 1);
    }

    @Edge(in = "II.", says = "(Once each.)")
    static void onceForEachThatComesOrGoes() {
        DayRows x = of("every 5 from 0 times 30 a;rows 2");
        is(x.count(1), 2);
        for (int rows = 4; rows <= 16; rows *= 2) {
            x.push(0, 500);
            is(x.count(1), rows);
        }
        x.push(0, 500);
        is(x.count(1), 32);
        x.push(0, 500);
        is(x.count(1), 32);
        DayRows shrinks = of("at 0 a;at 1 a;at 2 a;rows 64");
        is(shrinks.cancel(1), 2);
        laid(shrinks, 32, 6, 3 + 2, 0, 1);
        is(shrinks.take(1), 1);
        is(shrinks.count(1), 16);
        is(shrinks.cut(0), 1);
        is(shrinks.count(1), 8);
        is(shrinks.total(4), 3);
    }

    @Edge(in = "II.", says = "of the first 10 that WAIT (AHEAD first; all, if there are fewer)")
    static void widthByTheFirstTen() {
        is(of("at 100 a;at 107 a").widthNow(), 21);
        is(of("every 100 from 0 times 8 a;at 898 a").widthNow(), 336);
        is(of("every 100 from 0 times 9 a;at 989 a").widthNow(), 327);
        is(of("every 100 from 0 times 10 a;at 999 a").widthNow(), 300);
        is(of("at 5000 a;every 100 from 0 times 10 a;at 910 a").widthNow(), 300);
        DayRows x = of("every 100 from 0 times 9 a;at 989 a;at 1900 a");
        is(x.widthNow(), 327);
        is(x.cancel(0), 10);
        is(x.widthNow(), 3 * ((700 + 189) / 8));
        is(x.count(2), 300);
    }

    @Edge(in = "II.", says = "their mean, downwards")
    static void theMeanOfGapsIsDownwards() {
        is(of("at 0 a;at 5 a;at 6 a;at 8 a").widthNow(), 3);
        is(of("at 0 a;at 5 a;at 6 a;at 9 a").widthNow(), 9);
        is(of("at 0 a;at 0 a;at 1 a").widthNow(), 1);
        is(of("at 0 a;at 7 a;at 15 a").widthNow(), 21);
        is(of("at 1000 a;at 1001 a;at 1003 a;at 1010 a").widthNow(), 3);
        is(of("at 999999000 a;at 999999007 a;at 999999015 a").widthNow(), 21);
    }

    @Edge(in = "II.", says = "of those GAPS that are not above 2 times this the mean, downwards, times 3")
    static void gapsOfTwiceTheMeanCount() {
        is(of("at 0 a;at 2 a;at 4 a;at 12 a").widthNow(), 12);
        is(of("at 0 a;at 2 a;at 4 a;at 13 a").widthNow(), 6);
        is(of("at 0 a;at 1 a;at 2 a;at 4 a").widthNow(), 3);
        is(of("at 0 a;at 1 a;at 3 a").widthNow(), 3);
        is(of("at 0 a;at 2 a;at 5 a").widthNow(), 6);
    }

    @Edge(in = "II.", says = "1 at least, 99999999 at most")
    static void widthAnewFromOneToTheMost() {
        is(of("at 5 a;at 5 a;at 5 b").widthNow(), 1);
        is(of("at 0 a;at 0 a;at 1 a").widthNow(), 1);
        is(of("at 0 a;at 1 a").widthNow(), 3);
        is(of("at 0 a;at 33333332 a").widthNow(), 99999996);
        is(of("at 0 a;at 33333333 a").widthNow(), MOST_WIDTH);
        is(of("at 0 a;at 33333334 a").widthNow(), MOST_WIDTH);
        is(of("at 0 a;at 999999999 a").widthNow(), MOST_WIDTH);
        DayRows x = of("rows 2;at 0 a;at 200000000 a;at 400000000 a;at 600000000 a");
        is(x.push(0, 800000000), 4);
        laid(x, 4, MOST_WIDTH, 5, 1, 0);
        DayRows least = of("rows 2;at 7 a;at 7 a;at 7 a;at 7 a;at 7 a");
        laid(least, 4, 1, 5, 1, 0);
    }

    @Edge(in = "II.", says = "with fewer than two THINGS WIDTH stays")
    static void widthStaysWithFewerThanTwo() {
        is(new DayRows().widthNow(), 10);
        is(of("wide 7;at 5 a").widthNow(), 7);
        is(of("wide 7;at 5 a;at 5 a").widthNow(), 1);
        DayRows x = of("wide 7;rows 8;at 5 a;at 900 a");
        is(x.cancel(0), 1);
        laid(x, 4, 7, 1, 0, 1);
        is(x.cancel(1), 0);
        laid(x, 2, 7, 1, 0, 2);
    }

    @Edge(in = "II.", says = "MOVES: THINGS that are laid anew so, or by resize() (all that WAIT then)")
    static void movesAreAllThatWaitThen() {
        DayRows x = of("at 1 a;at 2 a;at 3 a");
        is(x.resize(8, 10), 4);
        is(x.total(1), 3);
        is(x.resize(8, 10), -2);
        is(x.resize(8, 0), NONE);
        is(x.total(1), 3);
        is(x.cancel(2), 2);
        is(x.total(1), 5);
        is(x.clear(0), 2);
        is(x.total(1), 6);
        is(x.resize(8, 10), 2);
        is(x.total(1), 6);
    }

    @Edge(in = "II.", says = "LOG: who was TAKEN, the last 50")
    static void theLogHasTheLastFifty() {
        DayRows x = of("every 2 from 0 times 50 a;every 2 from 1 times 50 b");
        is(x.log(0, 0), NONE);
        is(x.take(49), 49);
        is(x.log(48, 0), 0);
        is(x.log(49, 0), NONE);
        is(x.take(1), 1);
        is(x.log(49, 0), 0);
        is(x.log(50, 0), NONE);
        is(x.take(1), 1);
        is(x.log(0, 0), 25);
        is(x.log(49, 0), 50);
        is(x.log(50, 0), NONE);
        is(x.take(49), 49);
        is(x.log(0, 2), 99);
        is(x.log(49, 2), 50);
        is(x.log(50, 2), NONE);
        is(x.keep(0), 0);
        is(x.undo(), 3);
        is(x.log(0, 2), 50);
        is(x.log(49, 2), 1);
        is(x.cut(0), 49);
        is(x.push(1, 700), 100);
        is(x.take(1), 1);
        is(x.log(0, 0), 100);
        is(x.log(49, 2), 2);
        is(x.back(0), 0);
        is(x.log(0, 2), 99);
        is(x.log(0, 1), 1);
        is(x.log(49, 2), 50);
    }

    @Edge(in = "II.", says = "ACTS: name(), if it is a new one; all from push() to resize()")
    static void actsAreThese() {
        DayRows x = names(2);
        is(x.count(6), 2);
        int[] answers = {x.push(0, 5), x.series(1, 3, 8, 3), x.postpone(0, 9), x.shift(1, 2), x.merge(1, 0),
            x.swap(0, 3), x.rule(0, 1, 5), x.resize(8, 7)};
        is(answers.length, x.count(6) - 2);
        DayRows y = of("every 5 from 5 times 9 a;at 7 b;after a in 3 b");
        int[] others = {y.take(1), y.until(10), y.cancel(4), y.clear(1), y.cut(40), y.unrule(0)};
        is(others.length, y.count(6));
    }

    @Edge(in = "II.", says = "name(), if it is a new one")
    static void otherCallsAreNoActs() {
        DayRows x = of("at 5 a;at 9 b;after a in 3 b");
        is(name(x, "a"), 0);
        is(name(x, "A"), -2);
        x.keep(0);
        x.keep(0);
        x.feed(1, 2, 3, 4, 5);
        x.end(0);
        x.end(7);
        x.ahead(3, 0);
        x.by(9, 0);
        x.best(4, 0);
        x.busiest(3, 0);
        x.when(1, 2);
        x.looks();
        is(x.count(6), 0);
        is(x.undo(), NONE);
        is(name(x, "c"), 2);
        is(x.count(6), 1);
    }

    @Edge(in = "II.", says = "The last 10 can be UNDONE, the last first")
    static void theLastTenCanBeUndone() {
        DayRows x = of("at 5 a");
        for (int hour = 10; hour <= 19; hour++) {
            x.push(0, hour);
            is(x.count(6), hour - 9);
        }
        x.push(0, 20);
        is(x.count(6), 10);
        x.push(0, 21);
        is(x.count(6), 10);
        for (int left = 9; left >= 0; left--) {
            is(x.undo(), left);
            is(x.count(6), left);
            is(x.next(x.count(0) - 1, 2), 11 + left);
        }
        is(x.undo(), NONE);
        hours(x, 5, 10, 11);
        for (int round = 0; round < 3; round++) {
            x.push(0, 30);
            x.push(0, 31);
            x.push(0, 32);
            is(x.undo(), 2 * round + 2);
        }
        is(x.count(6), 6);
        hours(x, 5, 10, 11, 30, 30, 30, 31, 31, 31);
    }

    @Edge(in = "II.", says = "SHELVES 0, 1: all but TAPE, SHELVES")
    static void shelvesHoldAllButTapeAndShelves() {
        DayRows x = of("at 5 a");
        feed(x, "ab");
        is(x.keep(0), 1);
        is(x.end(1), 1);
        x.push(0, 9);
        is(x.keep(1), 2);
        is(x.back(0), 1);
        is(x.count(7), 1);
        is(x.count(8), 3);
        is(x.back(1), 2);
        is(x.keep(2), NONE);
        is(x.back(2), NONE);
        is(x.keep(-1), NONE);
        is(x.back(-1), NONE);
    }

    @Edge(in = "II.", says = "The k-th: from 0 on")
    static void kIsFromNoneOn() {
        DayRows x = of("at 5 a;at 3 b;after a in 7 b");
        is(x.next(0, 0), 1);
        is(x.next(-1, 0), NONE);
        is(x.row(0, 0), 1);
        is(x.letter(0, 0), 'a');
        is(x.letter(0, -1), NONE);
        is(x.ruled(0, 0), 0);
        is(x.ruled(-1, 0), NONE);
        is(x.day(0), 2);
        is(x.day(-1), NONE);
        is(x.told(0), 'r');
        is(x.way(0, 1, 0), 0);
        x.take(2);
        is(x.log(0, 0), 0);
        is(x.log(1, 0), 1);
        is(x.log(-1, 0), NONE);
    }

    @Edge(in = "II.", says = "Where NONE and another answer fit, it is NONE")
    static void noneAheadOfOtherAnswersOfActs() {
        DayRows x = of("at 5 a;at 9 b");
        x.take(1);
        String before = state(x);
        is(x.push(2, 3), NONE);
        is(x.push(0, -1), NONE);
        is(x.postpone(0, 3), NONE);
        is(x.postpone(1, -1), NONE);
        is(x.series(0, 0, 3, 2), NONE);
        is(x.series(0, 1, 3, 51), NONE);
        is(x.series(0, 999999, 999999999, 51), NONE);
        is(x.shift(0, 0), NONE);
        is(x.clear(-1), NONE);
        is(x.merge(0, 0), NONE);
        is(x.merge(0, 2), NONE);
        is(x.swap(1, 1), NONE);
        is(x.back(2), NONE);
        unchanged(x, before);
        x.cut(0);
        is(x.take(0), NONE);
        is(x.take(100), NONE);
        is(x.until(-1), NONE);
        is(x.cut(-1), NONE);
        is(x.cut(LAST + 1), NONE);
        DayRows full = full();
        is(full.push(0, -1), NONE);
        is(full.push(2, 5), NONE);
        is(full.series(0, 0, 5, 1), NONE);
        is(full.shift(0, 1000000), NONE);
    }

    @Edge(in = "II.", says = "Where NONE and another answer fit, it is NONE")
    static void noneAheadOfOtherAnswersOfLooks() {
        DayRows x = names(1);
        is(x.named(0, 5), NONE);
        is(x.named(1, 1), NONE);
        is(x.row(4, 9), NONE);
        is(x.row(0, -2), NONE);
        is(x.ahead(1, 5), NONE);
        is(x.ahead(301, 0), NONE);
        is(x.crowd(0, 1), NONE);
        is(x.crowd(5, 2), NONE);
        is(x.busiest(301, 0), NONE);
        is(x.busiest(1, 2), NONE);
        is(x.free(0, LAST), NONE);
        is(x.free(LAST + 1, 5), NONE);
        is(x.pair(2), NONE);
        is(x.when(0, 0), NONE);
        is(x.when(1, 1), NONE);
        is(x.same(0, 2), NONE);
        is(x.same(2, 0), NONE);
        is(x.told(-2), NONE);
        is(x.share(101), NONE);
        is(x.longest(2), NONE);
        is(x.soonest(0, 1), NONE);
        is(x.way(0, 0, -2), NONE);
        is(x.way(0, 1, 0), NONE);
    }
}
