/** What the tests by hand have in common: an answer against the one that is due, and ways to make an object. */
abstract class Checks {
    static final int NONE = DayRows.NONE;
    static final int LAST = 999999999;
    static final int LEAST_INT = Integer.MIN_VALUE;
    static final int MOST_INT = Integer.MAX_VALUE;
    /** What a long asks at once, so that no object is asked more often than the document allows. */
    private static final int COUNTS = 10;
    private static final int TOTALS = 8;

    private static String test = "";
    private static int wrong;

    static void begin(String name) {
        test = name;
        wrong = 0;
    }

    /** How many answers since begin() were not as due. */
    static int wrongAnswers() {
        return wrong;
    }

    static void say(String what) {
        wrong++;
        System.out.println(test + ", line " + line() + ": " + what);
    }

    /** Where in the test, not in the helpers, the answer was asked for. */
    private static int line() {
        int line = 0;
        for (StackTraceElement e : new Throwable().getStackTrace()) {
            if (!e.getClassName().equals("Checks") && e.getClassName().matches("PromiseTest|Edges\\w+")) {
                line = e.getLineNumber();
                if (test.endsWith(e.getMethodName())) {
                    break;
                }
            }
        }
        return line;
    }

    static void is(long got, long due) {
        if (got != due) {
            say(got + ", due is " + due);
        }
    }

    static void feed(DayRows x, String text) {
        x.end(0);
        for (int from = 0; from < text.length(); from += 20) {
            int[] five = new int[5];
            for (int k = 0; k < 20 && from + k < text.length(); k++) {
                five[k / 4] |= text.charAt(from + k) << 24 - k % 4 * 8;
            }
            x.feed(five[0], five[1], five[2], five[3], five[4]);
        }
        is(x.end(text.length()), text.length());
    }

    static int tell(DayRows x, String text) {
        feed(x, text);
        return x.tell();
    }

    static int name(DayRows x, String word) {
        feed(x, word);
        return x.name();
    }

    static DayRows of(String text) {
        DayRows x = new DayRows();
        is(tell(x, text) >= 0 ? 1 : 0, 1);
        return x;
    }

    /** A new object with the names a, b, .. */
    static DayRows names(int many) {
        DayRows x = new DayRows();
        for (int i = 0; i < many; i++) {
            is(name(x, "" + (char) ('a' + i)), i);
        }
        return x;
    }

    static void fault(String text, int place, int kind) {
        is(tell(new DayRows(), text), -2 - (8 * place + kind));
    }

    /** The numbers of all that wait, those ahead first. */
    static void order(DayRows x, int... numbers) {
        is(x.count(0), numbers.length);
        for (int k = 0; k < numbers.length; k++) {
            is(x.next(k, 0), numbers[k]);
        }
    }

    /** The hours of all that wait, those ahead first. */
    static void hours(DayRows x, int... hours) {
        is(x.count(0), hours.length);
        for (int k = 0; k < hours.length; k++) {
            is(x.next(k, 2), hours[k]);
        }
    }

    /** Rows, width, moves, grown, shrunk. */
    static void laid(DayRows x, int rows, int width, int moves, int grown, int shrunk) {
        is(x.count(1), rows);
        is(x.count(2), width);
        is(x.total(1), moves);
        is(x.total(3), grown);
        is(x.total(4), shrunk);
    }

    /** 200 wait, of the name a. */
    static DayRows full() {
        DayRows x = of("every 1 from 0 times 50 a;every 1 from 50 times 50 a;"
            + "every 1 from 100 times 50 a;every 1 from 150 times 50 a;after b in 1 b");
        is(x.count(0), 200);
        return x;
    }

    static void text(DayRows x, String due) {
        is(x.told(NONE), due.length());
        StringBuilder got = new StringBuilder();
        for (int k = 0; k < due.length(); k++) {
            int sign = x.told(k);
            got.append(sign < 0 ? "?" : (char) sign);
        }
        if (!got.toString().equals(due)) {
            say("told '" + got + "', due is '" + due + "'");
        }
    }

    /** What can be seen of an object with few calls. */
    static String state(DayRows x) {
        StringBuilder all = new StringBuilder();
        for (int what = 0; what < COUNTS; what++) {
            all.append(x.count(what)).append(' ');
        }
        for (int what = 0; what < TOTALS; what++) {
            all.append(x.total(what)).append(' ');
        }
        return all.append(x.digest()).append(' ').append(x.log(0, 0)).toString();
    }

    /** Nothing happened since state() answered so. */
    static void unchanged(DayRows x, String before) {
        String now = state(x);
        if (!now.equals(before)) {
            say("the state is " + now + ", it was " + before);
        }
    }
}
