import java.lang.reflect.InvocationTargetException;
import java.lang.reflect.Method;
import java.util.ArrayList;
import java.util.Arrays;
import java.util.List;
import java.util.Map;
import java.util.Random;
import java.util.TreeMap;

/** Long runs of drawn calls, asked of DayRows and of Model: each answer must be the same. */
public final class RunsTest {
    private static final int CALLS = 512;
    private static final String[] ACTS = {"name", "push", "take", "until", "cancel", "clear", "postpone", "series",
        "shift", "merge", "cut", "swap", "rule", "unrule", "resize", "undo", "keep", "back", "tell"};
    private static final String[] OFTEN = {"push", "push", "series", "take", "until", "postpone", "rule", "shift"};
    private static final String[] STATE = {"digest", "count", "total", "log", "row", "named", "ruled", "told"};
    private static final String[] WORDS = {"a", "b", "at", "rows", "wide", "every", "in", "from", "times", "after",
        "q", "zz", "abcdef", "fedcba", "x", "yyyyy", "n", "m", "o", "p"};

    private final Random random;
    private final Model model = new Model();
    private final DayRows real = new DayRows();
    private final List<String> calls = new ArrayList<>();
    private final Map<String, Integer> answered;
    private final int spread;
    private final boolean careless;

    private RunsTest(long seed, Map<String, Integer> answered) {
        random = new Random(seed);
        this.answered = answered;
        spread = new int[] {8, 60, 1000, 40000, 5000000, 1000000000}[random.nextInt(6)];
        careless = random.nextInt(3) == 0;
    }

    public static void main(String[] args) throws Exception {
        int runs = args.length > 0 ? Integer.parseInt(args[0]) : 400;
        long first = args.length > 1 ? Long.parseLong(args[1]) : 1;
        int passed = 0;
        int failed = 0;
        Map<String, Integer> answered = new TreeMap<>();
        for (long seed = first; seed < first + runs; seed++) {
            RunsTest run = new RunsTest(seed, answered);
            String wrong = run.go();
            if (wrong == null) {
                passed++;
            } else {
                failed++;
                System.out.println("seed " + seed + ": " + wrong);
            }
        }
        if (args.length > 2) {
            System.out.println(answered);
        }
        System.out.println("RunsTest: " + passed + " passed, " + failed + " failed");
        if (failed > 0) {
            System.exit(1);
        }
    }

    private String go() throws Exception {
        for (int i = 0; i < 3 + random.nextInt(4); i++) {
            String wrong = call("name");
            if (wrong != null) {
                return wrong;
            }
        }
        while (calls.size() < CALLS - 12) {
            String name = drawCall();
            String wrong = call(name);
            for (int i = 0; wrong == null && i < 2 && Arrays.asList(ACTS).contains(name); i++) {
                wrong = call(STATE[random.nextInt(STATE.length)]);
            }
            if (wrong != null) {
                return wrong;
            }
        }
        return null;
    }

    private String drawCall() {
        int pick = random.nextInt(10);
        if (pick < 3) {
            return OFTEN[random.nextInt(OFTEN.length)];
        }
        if (pick < 5) {
            return ACTS[random.nextInt(ACTS.length)];
        }
        Method[] all = Model.class.getDeclaredMethods();
        while (true) {
            Method method = all[random.nextInt(all.length)];
            boolean rare = List.of("tell", "back", "clear", "cut", "feed", "end").contains(method.getName());
            if (java.lang.reflect.Modifier.isPublic(method.getModifiers()) && (!rare || random.nextInt(8) == 0)) {
                return method.getName();
            }
        }
    }

    private String call(String name) throws Exception {
        String wrong = null;
        if (name.equals("tell") && random.nextInt(30) != 0) {
            wrong = feed(text());
        } else if (name.equals("name") && random.nextInt(30) != 0) {
            wrong = feed(random.nextInt(12) == 0 ? "Bad " : WORDS[random.nextInt(WORDS.length)]);
        }
        return wrong != null ? wrong : ask(name, arguments(name));
    }

    private String feed(String text) throws Exception {
        String wrong = ask("end", new int[] {0});
        for (int from = 0; wrong == null && from < text.length(); from += 20) {
            int[] five = new int[5];
            for (int k = 0; k < 20; k++) {
                int sign = from + k < text.length() ? text.charAt(from + k) : 0;
                five[k / 4] |= sign << 24 - k % 4 * 8;
            }
            wrong = ask("feed", five);
        }
        return wrong != null ? wrong : ask("end", new int[] {text.length()});
    }

    private String ask(String name, int[] numbers) throws Exception {
        Class<?>[] types = new Class<?>[numbers.length];
        Arrays.fill(types, int.class);
        Object[] boxed = Arrays.stream(numbers).boxed().toArray();
        String call = name + Arrays.toString(numbers);
        calls.add(call);
        Object due = Model.class.getDeclaredMethod(name, types).invoke(model, boxed);
        Object got;
        try {
            got = DayRows.class.getDeclaredMethod(name, types).invoke(real, boxed);
        } catch (InvocationTargetException e) {
            got = e.getCause();
        }
        answered.merge(name + (due.toString().startsWith("-") ? due.toString().replaceAll("..{3,}", "-..") : ""), 1,
            Integer::sum);
        return due.equals(got) ? null : "call " + calls.size() + ", " + call + " answered " + got + ", due is " + due
            + ", after " + calls;
    }

    private int[] arguments(String name) {
        switch (name) {
            case "feed": return new int[] {some(), some(), some(), some(), some()};
            case "end": return new int[] {between(-1, 20)};
            case "push": return new int[] {nameNumber(), hour()};
            case "take": return new int[] {oddly(1, random.nextBoolean() ? 4 : 99)};
            case "until": case "cut": return new int[] {hour()};
            case "cancel": return new int[] {number()};
            case "clear": return new int[] {nameNumber()};
            case "postpone": return new int[] {number(), hour()};
            case "series":
                return new int[] {nameNumber(), gap(), hour(), oddly(1, random.nextBoolean() ? 5 : 50)};
            case "shift": return new int[] {nameNumber(), gap()};
            case "merge": case "leads": case "soonest": return new int[] {nameNumber(), nameNumber()};
            case "swap": return new int[] {number(), number()};
            case "rule": return new int[] {nameNumber(), nameNumber(), gap()};
            case "unrule": return new int[] {between(-1, 12)};
            case "resize": case "lookBy": return new int[] {rows(), width()};
            case "keep": case "back": return new int[] {oddly(0, 1)};
            case "next": return new int[] {between(-1, model.count(0)), between(-1, 4)};
            case "of": return new int[] {number(), between(-1, 5)};
            case "row": return new int[] {oddly(0, model.count(1) - 1), between(-2, 6)};
            case "letter": return new int[] {nameNumber(), between(-1, 6)};
            case "named": return new int[] {nameNumber(), between(-1, 5)};
            case "ruled": return new int[] {between(-1, 12), between(-1, 3)};
            case "log": return new int[] {between(-1, random.nextBoolean() ? 3 : 50), between(-1, 4)};
            case "total": return new int[] {between(-1, 8)};
            case "skew": return new int[] {between(-1, 6)};
            case "best": return new int[] {rows(), between(-1, 2)};
            case "ahead": return new int[] {oddly(1, random.nextBoolean() ? 5 : 300), between(-1, 5)};
            case "between": return new int[] {hour(), random.nextInt(9) == 0 ? 1000000000 : hour()};
            case "crowd": return new int[] {span(), between(-1, 2)};
            case "busiest": return new int[] {oddly(1, random.nextBoolean() ? 9 : 300), between(-1, 2)};
            case "day": return new int[] {oddly(0, random.nextBoolean() ? 9 : 999)};
            case "free": return new int[] {span(), hour()};
            case "pair": case "longest": return new int[] {between(-1, 2)};
            case "when": return new int[] {nameNumber(), oddly(1, random.nextBoolean() ? 5 : 99)};
            case "same": return new int[] {oddly(0, 1), between(-1, 2)};
            case "told": return new int[] {random.nextInt(4) == 0 ? -1 : between(-2, model.told(-1) + 1)};
            case "share": return new int[] {oddly(1, 100)};
            case "bestRows": return new int[] {width(), between(-1, 2)};
            case "skewBy": return new int[] {rows(), width(), between(-1, 3)};
            case "way": return new int[] {nameNumber(), nameNumber(), between(-2, 5)};
            case "by": return new int[] {hour(), between(-1, 3)};
            case "count": return new int[] {between(-1, 10)};
            default: return new int[0];
        }
    }

    private int between(int least, int most) {
        return least + random.nextInt(most - least + 1);
    }

    /** Mostly from least to most, now and then beside. */
    private int oddly(int least, int most) {
        int odd = random.nextInt(careless ? 10 : 40);
        return odd == 0 ? least - 1 : odd == 1 ? most + 1 : odd == 2 ? some() : odd == 3 ? most
            : odd == 4 ? least : between(least, most);
    }

    private int some() {
        int[] odd = {Integer.MIN_VALUE, Integer.MAX_VALUE, -2, -1, 0, 1, 1000000000, 100000000, 1000000};
        return random.nextBoolean() ? random.nextInt() : odd[random.nextInt(odd.length)];
    }

    private int nameNumber() {
        return oddly(0, Math.max(0, model.count(4) - 1));
    }

    private int number() {
        int waiting = model.count(0);
        return waiting == 0 || random.nextInt(12) == 0 ? oddly(0, model.count(9)) : model.next(random.nextInt(waiting), 0);
    }

    private int hour() {
        int now = model.count(3);
        int last = 999999999;
        switch (random.nextInt(careless ? 12 : 30)) {
            case 0: return some();
            case 1: return last;
            case 2: return Math.max(0, now - 1);
            case 3: return last - random.nextInt(3000);
            case 4: return now;
            case 5: return random.nextInt(last);
            case 6:
            case 7: return model.count(0) == 0 ? now : model.next(random.nextInt(model.count(0)), 2) + between(-1, 1);
            default: return (int) Math.min(last, (long) now + random.nextInt(spread));
        }
    }

    private int gap() {
        int odd = random.nextInt(14);
        return odd == 0 ? 999999 : odd == 1 ? oddly(1, 999999) : oddly(1, Math.min(999999, 1 + spread / 9));
    }

    private int span() {
        int odd = random.nextInt(8);
        return odd == 0 ? oddly(1, 999999999) : odd == 1 ? 999999999 : oddly(1, spread);
    }

    private int rows() {
        return random.nextInt(12) == 0 ? oddly(1, 70) : 1 << between(1, 6);
    }

    private int width() {
        int odd = random.nextInt(8);
        return odd == 0 ? oddly(1, 99999999) : odd == 1 ? 1 << between(0, 26) : oddly(1, Math.min(99999999, 3 + spread / 4));
    }

    private String text() {
        StringBuilder text = new StringBuilder();
        int statements = between(1, random.nextBoolean() ? 4 : 22);
        boolean sound = random.nextInt(3) != 0;
        for (int i = 0; i < statements && text.length() < 360; i++) {
            text.append(i == 0 ? "" : ";").append(blanks(false)).append(statement(sound)).append(blanks(false));
        }
        text.setLength(Math.min(400, text.length()));
        int faulty = sound ? 9 : random.nextInt(6);
        if (faulty == 0) {
            text.setLength(random.nextInt(text.length() + 1));
        } else if (faulty == 1 && text.length() > 0) {
            text.setCharAt(random.nextInt(text.length()), "a1; Zz0\t\u00e9\0".charAt(random.nextInt(9)));
        } else if (faulty == 2 && text.length() > 0) {
            text.deleteCharAt(random.nextInt(text.length()));
        }
        return text.toString();
    }

    private String statement(boolean sound) {
        String name = sound ? WORDS[random.nextInt(WORDS.length - 4)] : WORDS[random.nextInt(WORDS.length)];
        String word = blanks(true) + (sound || random.nextInt(9) != 0 ? name : "abcdefghij".substring(random.nextInt(6)));
        String b = blanks(false);
        int due = sound ? random.nextInt(spread) : hour();
        switch (random.nextInt(sound ? 8 : 9)) {
            case 0: return "rows" + b + (sound ? 1 << between(1, 6) : rows());
            case 1: return "wide" + b + "0".repeat(random.nextInt(3)) + (sound ? between(1, 99999999) : Math.abs(width()));
            case 2: return "after" + word + blanks(true) + "in" + b + (sound ? between(1, 999) : Math.abs(gap())) + word;
            case 3:
            case 4:
            case 5: return "every" + b + (sound ? between(1, 999) : Math.abs(gap())) + b + "from" + b
                + Math.min(sound ? 999900000 : Integer.MAX_VALUE, Math.abs(due)) + b + "times" + b
                + (sound ? between(1, 20) : between(0, 51)) + word;
            default: return "at" + b + Math.abs(due) + word;
        }
    }

    private String blanks(boolean needed) {
        return " ".repeat(random.nextInt(4) == 0 ? random.nextInt(3) + (needed ? 1 : 0) : needed ? 1 : 0);
    }
}
