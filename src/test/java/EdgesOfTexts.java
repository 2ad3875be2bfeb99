/** The edges that the document names for a TEXT, and for the FAULT of one that is none. */
final class EdgesOfTexts extends Checks {
    private static final String FIFTY = "every 1 from 0 times 50 q;";
    private static final String FOUR_RULES = "after a in 1 a;after a in 1 a;after a in 1 a;after a in 1 a;";
    private static final String SIXTEEN =
        "at0a;at0b;at0c;at0d;at0e;at0f;at0g;at0h;at0i;at0j;at0k;at0l;at0m;at0n;at0o;at0p;";

    private EdgesOfTexts() { }

    private static void told(String text, int waiting) {
        is(tell(new DayRows(), text), waiting);
    }

    private static String padded(String text, int length) {
        return " ".repeat(length - text.length()) + text;
    }

    @Edge(in = "I.", says = "A TEXT of at most 400 bytes tells a CALENDAR")
    static void aTextOfFourHundredBytes() {
        told(padded("at 5 q", 400), 1);
        DayRows x = of(padded("at 5 qz", 400));
        is(x.letter(0, 1), 'z');
        is(x.letter(0, 2), NONE);
        fault(padded("at 5 qZ", 400), 399, 1);
        fault(padded("at 5 q;", 400), 400, 1);
        fault(padded("at 5 ", 400), 400, 1);
        fault(padded("at 5", 400), 400, 1);
        fault(padded("at 0 q", 399) + "9", 399, 1);
        fault(" ".repeat(400), 400, 1);
        fault(padded("rows 3", 400), 399, 2);
        fault(padded("at 5 abcdefg", 400), 399, 2);
    }

    @Edge(in = "I.", says = "STATEMENT { ; STATEMENT }")
    static void statementsWithOneMarkBetween() {
        told("rows 2", 0);
        told("at 5 q;at 6 q;at 7 q", 3);
        fault("", 0, 1);
        fault(" ", 1, 1);
        fault(";", 0, 1);
        fault(";at 5 q", 0, 1);
        fault("at 5 q;", 7, 1);
        fault("at 5 q; ", 8, 1);
        fault("at 5 q;;at 6 q", 7, 1);
        fault("at 5 q at 6 q", 7, 1);
        fault("at 5 q,at 6 q", 6, 1);
        fault("rows 4 wide 5", 7, 1);
    }

    @Edge(in = "I.", says = "rows NUMBER (2, 4, .., 64)")
    static void rowsOfATextAreTheSixPowers() {
        for (int rows : new int[] {2, 4, 8, 16, 32, 64}) {
            is(of("rows " + rows).count(1), rows);
        }
        for (int rows : new int[] {0, 1, 3, 5, 6, 12, 63, 65, 128, 256}) {
            fault("rows " + rows, 5, 2);
        }
    }

    @Edge(in = "I.", says = "wide NUMBER (WIDTH)")
    static void widthOfATextFromOneToTheMost() {
        is(of("wide 1").count(2), 1);
        is(of("wide 99999999").count(2), 99999999);
        fault("wide 0", 5, 2);
        fault("wide 100000000", 5, 2);
        fault("wide 999999999", 5, 2);
        fault("wide -1", 5, 1);
    }

    @Edge(in = "I.", says = "at HOUR NAME")
    static void hourOfATextFromNoneToTheLast() {
        is(of("at 0 q").next(0, 2), 0);
        is(of("at 999999999 q").next(0, 2), LAST);
        fault("at 1000000000 q", 3, 2);
        fault("at -1 q", 3, 1);
        fault("at q", 3, 1);
        fault("at 5", 4, 1);
    }

    @Edge(in = "I.", says = "every GAP from HOUR times COUNT NAME (GAP 1 to 999999, COUNT 1 to 50: DUE at HOUR, HOUR and GAP, ..)")
    static void everyWithGapsAndCountsAtTheirEdges() {
        hours(of("every 1 from 0 times 1 q"), 0);
        hours(of("every 999999 from 999000000 times 2 q"), 999000000, LAST);
        DayRows x = of("every 999999 from 1 times 50 q");
        is(x.count(0), 50);
        is(x.next(49, 2), 1 + 49 * 999999);
        told("every 5 from 999999999 times 1 q", 1);
        fault("every 0 from 0 times 1 q", 6, 2);
        fault("every 1000000 from 0 times 1 q", 6, 2);
        fault("every 1 from 1000000000 times 1 q", 13, 2);
        fault("every 1 from 0 times 0 q", 21, 2);
        fault("every 1 from 0 times 51 q", 21, 2);
    }

    @Edge(in = "I.", says = "after NAME in GAP NAME (a RULE; 12 at most; GAP 1 to 999999)")
    static void rulesOfATextAtTheirEdges() {
        is(of("after q in 1 q").ruled(0, 2), 1);
        is(of("after q in 999999 q").ruled(0, 2), 999999);
        fault("after q in 0 q", 11, 2);
        fault("after q in 1000000 q", 11, 2);
        is(of(FOUR_RULES + FOUR_RULES + FOUR_RULES + "at 0 a").count(5), 12);
        fault(FOUR_RULES + FOUR_RULES + FOUR_RULES + "after a in 1 a", 180, 4);
    }

    @Edge(in = "I.", says = "WORDS are small letters, NUMBERS digits, as far as they go on")
    static void wordsAndNumbersGoOnAsFarAsTheyCan() {
        told("rows4;wide10;at5q;every7from5times2b;after b in7q", 3);
        fault("atq 5", 0, 1);
        fault("rowsat 4", 0, 1);
        fault("everyfrom 5", 0, 1);
        fault("after b in7q8", 12, 1);
        fault("after bin7q", 9, 1);
        fault("after b inq 7", 8, 1);
        fault("every 7 froma 5", 8, 1);
        fault("rows 22", 5, 2);
        fault("rows 2 2", 7, 1);
        fault("at 9999999999999999999999 q", 3, 2);
        fault("At 5 q", 0, 1);
        fault("at 5 Q", 5, 1);
        fault("at 5 q5", 6, 1);
        is(of("rows 0000000000000000000000000016").count(1), 16);
    }

    @Edge(in = "I.", says = "blanks (32) stand between as one likes")
    static void blanksStandBetweenAsOneLikes() {
        told("   at   5   q   ;   at6q  ", 2);
        told("  every  7  from  5  times  2  b  ;after  b  in  7  q ", 2);
        for (char sign : new char[] {0, 9, 10, 13, 31, 33, 127, 128, 160, 255}) {
            fault(sign + "at 5 q", 0, 1);
            fault("at" + sign + "5 q", 2, 1);
            fault("at 5" + sign + "q", 4, 1);
            fault("at 5 q" + sign, 6, 1);
        }
        fault("a t 5 q", 0, 1);
        fault("at 1 2 q", 5, 1);
        fault("at 5 q r", 7, 1);
        fault("rows 1 6", 5, 2);
        fault("after b i n 7 q", 8, 1);
    }

    @Edge(in = "I.", says = "A NAME is a WORD of 1 to 6 letters, also rows, wide, at, ..")
    static void namesOfATextHaveOneToSixLetters() {
        DayRows x = of("at 5 a;at 5 zzzzzz;at 5 rows;at 5 wide;at 5 at;at 5 every;at 5 after;at 5 from;at 5 times;at 5 in");
        is(x.count(4), 10);
        is(x.letter(1, 5), 'z');
        is(x.letter(1, 6), NONE);
        is(of("after after in 5 in").ruled(0, 1), 1);
        is(of("after in in 5 in").ruled(0, 1), 0);
        is(of("every 1 from 5 times 2 times").count(4), 1);
        fault("at 5 ;at 5 a", 5, 1);
        fault("at 5 abcdefg", 11, 2);
    }

    @Edge(in = "I.", says = "FAULT of a text that is none, the first that is met as it is read")
    static void theFirstFaultThatIsMetCounts() {
        fault("rows 3;rows 5;x", 5, 2);
        fault("rows 5x", 5, 2);
        fault("at 1000000000 abcdefg", 3, 2);
        fault("every 0 from 1000000000 times 51 q", 6, 2);
        fault("every 7 from 1000000000 times 51 q", 13, 2);
        fault("every 999999 from 999999999 times 51 q", 34, 2);
        fault("every 999999 from 999999999 times 2 ;", 36, 1);
        fault("every 999999 from 999999999 times 2 q ;x", 0, 4);
        fault("after abcdefg in 0 q", 12, 2);
        fault("at 5 q;at 6", 11, 1);
    }

    @Edge(in = "I.", says = "8 times its place (0 the first byte)")
    static void faultsTellTheirPlace() {
        is(tell(new DayRows(), "x"), -2 - 1);
        is(tell(new DayRows(), " x"), -2 - 9);
        is(tell(new DayRows(), "rows 3"), -2 - 42);
        is(tell(new DayRows(), SIXTEEN + "at0q"), -2 - 8 * 83 - 3);
        is(tell(new DayRows(), "every 1 from 999999999 times 2 q"), -2 - 4);
    }

    @Edge(in = "I.", says = "1 a byte or WORD that cannot stand there")
    static void bytesAndWordsThatCannotStandThere() {
        fault("row 4", 0, 1);
        fault("rowss 4", 0, 1);
        fault("  wid 4", 2, 1);
        fault("on 5 q", 0, 1);
        fault("every 7 to 5 times 3 b", 8, 1);
        fault("every 7 from 5 time 3 b", 15, 1);
        fault("every 7 from 5 3 b", 15, 1);
        fault("after q inn 7 b", 8, 1);
        fault("after q 7 b", 8, 1);
        fault("after 7 in 7 b", 6, 1);
        fault("rows +4", 5, 1);
        fault("rows 4.", 6, 1);
        fault("5", 0, 1);
    }

    @Edge(in = "I.", says = "1 a byte or WORD that cannot stand there")
    static void ofAllBytesButASmallLetterBeginsAStatement() {
        for (int sign = 0; sign < 256; sign++) {
            String text = (char) sign + "t 5 q";
            if (sign == 'a') {
                told(text, 1);
            } else {
                fault(text, sign == ' ' ? 1 : 0, 1);
            }
        }
    }

    @Edge(in = "I.", says = "1 a byte or WORD that cannot stand there")
    static void ofAllBytesASmallLetterIsAName() {
        for (int sign = 0; sign < 256; sign++) {
            String text = "at 5 " + (char) sign;
            if (sign >= 'a' && sign <= 'z') {
                is(of(text).letter(0, 0), sign);
            } else {
                fault(text, sign == ' ' ? 6 : 5, 1);
            }
        }
    }

    @Edge(in = "I.", says = "1 a byte or WORD that cannot stand there")
    static void ofAllBytesADigitIsANumber() {
        for (int sign = 0; sign < 256; sign++) {
            String text = "at " + (char) sign + "q";
            if (sign >= '0' && sign <= '9') {
                is(of(text).next(0, 2), sign - '0');
            } else {
                fault(text, sign == ' ' ? 4 : 3, 1);
            }
        }
    }

    @Edge(in = "I.", says = "or the text ends (the place behind its last byte)")
    static void theTextEndsTooEarly() {
        for (String start : new String[] {"rows", "wide ", "at", "at ", "at 5", "at 5 ", "every", "every 7", "every 7 from",
            "every 7 from 5", "every 7 from 5 times", "every 7 from 5 times 3", "every 7 from 5 times 3  ", "after",
            "after q", "after q in", "after q in 5", "after q in 5 ", "rows 4;", "rows 4; "}) {
            fault(start, start.length(), 1);
        }
        fault("ro", 0, 1);
        fault("every 7 fro", 8, 1);
        fault("after q i", 8, 1);
    }

    @Edge(in = "I.", says = "2 a NUMBER (where it begins) that is not as told")
    static void numbersThatAreNotAsTold() {
        fault("rows   00000003", 7, 2);
        fault("rows 4294967298", 5, 2);
        fault("rows 4294967300", 5, 2);
        fault("rows 18446744073709551620", 5, 2);
        fault("wide 4294967301", 5, 2);
        fault("at 2147483648 q", 3, 2);
        fault("at 4294967296 q", 3, 2);
        fault("at 18446744073709551616 q", 3, 2);
        fault("every 4294967297 from 0 times 1 q", 6, 2);
        fault("every 1 from 0 times 4294967297 q", 21, 2);
        fault("after q in 4294967297 q", 11, 2);
        fault("at " + "9".repeat(390) + " q", 3, 2);
        told("at " + "0".repeat(390) + "7 q", 1);
    }

    @Edge(in = "I.", says = "a seventh letter of a NAME (at it)")
    static void theSeventhLetterOfAName() {
        told("at 5 abcdef", 1);
        fault("at 5 abcdefg", 11, 2);
        fault("at 5 abcdefghijkl", 11, 2);
        fault("at 5   abcdefg", 13, 2);
        told("after abcdef in 5 fedcba", 0);
        fault("after abcdefg in 5 q", 12, 2);
        fault("after q in 5 abcdefg", 19, 2);
        fault("every 1 from 5 times 2 abcdefg", 29, 2);
        fault("at 5 abcdef7", 11, 1);
    }

    @Edge(in = "I.", says = "3 the first byte of a NAME by which there are more than 16")
    static void aSeventeenthName() {
        told(SIXTEEN + "at0p", 17);
        fault(SIXTEEN + "at0q", 83, 3);
        fault(SIXTEEN + "at 0   qrs", 87, 3);
        fault(SIXTEEN + "after q in 1 a", 86, 3);
        fault(SIXTEEN + "after a in 1 q", 93, 3);
        fault(SIXTEEN + "every 1 from 0 times 2 q", 103, 3);
        fault(SIXTEEN + "at0qQ", 83, 3);
        is(of(SIXTEEN + "after p in 1 a").count(4), 16);
    }

    @Edge(in = "I.", says = "4 the first byte of a STATEMENT (asked as it ends) by which more than 200 would WAIT")
    static void moreThanTwoHundredOfAText() {
        told(FIFTY + FIFTY + FIFTY + FIFTY + "rows 64", 200);
        fault(FIFTY + FIFTY + FIFTY + FIFTY + "at 0 q", 104, 4);
        fault(FIFTY + FIFTY + FIFTY + FIFTY + " at 0 q", 105, 4);
        fault(FIFTY + FIFTY + FIFTY + FIFTY + "at 0 Q", 109, 1);
        fault(FIFTY + FIFTY + FIFTY + FIFTY + "at 0 abcdefg", 115, 2);
        told(FIFTY + FIFTY + FIFTY + "every 1 from 0 times 49 q;at 0 q", 200);
        fault(FIFTY + FIFTY + FIFTY + "at 0 q;every 1 from 0 times 50 q", 85, 4);
        told(FIFTY + FIFTY + FIFTY + "at 0 q;every 1 from 0 times 49 q", 200);
    }

    @Edge(in = "I.", says = "an HOUR would be above 999999999")
    static void hoursAboveTheLastOfAText() {
        told("every 1 from 999999950 times 50 q", 50);
        fault("every 1 from 999999951 times 50 q", 0, 4);
        told("every 999999 from 999000000 times 2 q", 2);
        fault("every 999999 from 999000001 times 2 q", 0, 4);
        fault("rows 2;  every 999999 from 999999999 times 50 q", 9, 4);
        told("every 999999 from 999999999 times 1 q", 1);
    }

    @Edge(in = "I.", says = "or of a 13th RULE")
    static void aThirteenthRuleOfAText() {
        String twelve = FOUR_RULES + FOUR_RULES + FOUR_RULES;
        told(twelve + "at 0 a", 1);
        fault(twelve + "after a in 1 a", 180, 4);
        fault(twelve + " after b in 5 c ", 181, 4);
        fault(twelve + "after a in 1 ", 193, 1);
        fault(twelve + "after a in 0 a", 191, 2);
    }

    @Edge(in = "I.", says = "Of one place the least")
    static void ofOnePlaceTheLeast() {
        fault("rows", 4, 1);
        fault("rows x", 5, 1);
        fault("at 5 ", 5, 1);
        fault(SIXTEEN + "at 0 ", 85, 1);
        fault(SIXTEEN + "at 0 Q", 85, 1);
        fault(FIFTY + FIFTY + FIFTY + FIFTY + "x 0 q", 104, 1);
    }

    @Edge(in = "I.", says = "What it tells comes one by one as it stands (as by push(); GROWS, too)")
    static void whatATextTellsGrows() {
        laid(of("every 5 from 0 times 8 q"), 4, 10, 0, 0, 0);
        laid(of("every 5 from 0 times 9 q"), 8, 15, 9, 1, 0);
        laid(of("at0q;at5q;at10q;at15q;rows 2;at20q"), 4, 15, 4 + 5, 1, 0);
        laid(of("every 5 from 0 times 17 q"), 16, 15, 9 + 17, 2, 0);
        DayRows x = of("at 9 b;every 5 from 5 times 2 a;at 5 b");
        order(x, 1, 3, 0, 2);
        is(x.count(9), 4);
    }

    @Edge(in = "I.", says = "rows, wide lay all that WAIT by then anew (as by resize(); nothing, if it is so already)")
    static void rowsAndWideLayAnew() {
        laid(of("rows 4;wide 10;at 5 q"), 4, 10, 0, 0, 0);
        laid(of("at 5 q;rows 4;wide 10"), 4, 10, 0, 0, 0);
        laid(of("at 5 q;at 6 q;rows 8"), 8, 10, 2, 0, 0);
        laid(of("at 5 q;at 6 q;wide 11;at 7 q"), 4, 11, 2, 0, 0);
        laid(of("at 5 q;wide 11;wide 11;wide 10"), 4, 10, 2, 0, 0);
        laid(of("rows 64;wide 1"), 64, 1, 0, 0, 0);
        DayRows x = of("at 5 q;rows 64;wide 1");
        is(x.next(0, 3), 5);
        is(x.undo(), NONE);
    }
}
