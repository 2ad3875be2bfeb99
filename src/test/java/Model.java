import java.util.ArrayList;
import java.util.Arrays;
import java.util.Comparator;
import java.util.List;
import java.util.TreeMap;

/**
 * The document once more, word by word and with no thought of room or speed: rows that hold things, days
 * that are walked, states that are copied whole. RunsTest asks it and DayRows the same.
 */
public final class Model {
    static final int NONE = -1;
    static final Comparator<Thing> AHEAD =
        Comparator.comparingInt((Thing t) -> t.hour).thenComparingInt(t -> t.number);

    record Thing(int number, int name, int hour) { }

    record Rule(int name, int other, int gap) { }

    record Logged(int number, int name, int hour, int looks) { }

    static final class State {
        List<String> names = new ArrayList<>();
        List<List<Thing>> rows = new ArrayList<>();
        List<Rule> rules = new ArrayList<>();
        List<Logged> log = new ArrayList<>();
        int[] taken = new int[16];
        int[] lost = new int[16];
        int[] totals = new int[8];
        int width = 10;
        int now;
        int following;

        State() {
            for (int i = 0; i < 4; i++) {
                rows.add(new ArrayList<>());
            }
        }

        State copy() {
            State s = new State();
            s.names = new ArrayList<>(names);
            s.rows = new ArrayList<>();
            for (List<Thing> row : rows) {
                s.rows.add(new ArrayList<>(row));
            }
            s.rules = new ArrayList<>(rules);
            s.log = new ArrayList<>(log);
            s.taken = taken.clone();
            s.lost = lost.clone();
            s.totals = totals.clone();
            s.width = width;
            s.now = now;
            s.following = following;
            return s;
        }

        List<Thing> waiting() {
            List<Thing> all = new ArrayList<>();
            for (List<Thing> row : rows) {
                all.addAll(row);
            }
            all.sort(AHEAD);
            return all;
        }

        int size() {
            return rows.stream().mapToInt(List::size).sum();
        }

        Thing byNumber(int number) {
            for (Thing t : waiting()) {
                if (t.number == number) {
                    return t;
                }
            }
            return null;
        }

        List<Thing> ofName(int name) {
            List<Thing> some = waiting();
            some.removeIf(t -> t.name != name);
            return some;
        }

        void put(Thing t) {
            List<Thing> row = rows.get(t.hour / width % rows.size());
            row.add(t);
            row.sort(AHEAD);
        }

        void lay(int many, int newWidth) {
            List<Thing> all = waiting();
            rows = new ArrayList<>();
            for (int i = 0; i < many; i++) {
                rows.add(new ArrayList<>());
            }
            width = newWidth;
            for (Thing t : all) {
                put(t);
                totals[1]++;
            }
        }

        int widthAnew() {
            List<Thing> all = waiting();
            if (all.size() < 2) {
                return width;
            }
            List<Long> gaps = new ArrayList<>();
            for (int i = 1; i < Math.min(10, all.size()); i++) {
                gaps.add((long) all.get(i).hour - all.get(i - 1).hour);
            }
            long mean = gaps.stream().mapToLong(g -> g).sum() / gaps.size();
            List<Long> few = gaps.stream().filter(g -> g <= 2 * mean).toList();
            long third = few.stream().mapToLong(g -> g).sum() / few.size();
            return (int) Math.min(99999999L, Math.max(1L, third * 3));
        }

        void comes(Thing t) {
            put(t);
            if (size() > 2 * rows.size() && rows.size() < 64) {
                int anew = widthAnew();
                totals[3]++;
                lay(rows.size() * 2, anew);
            }
        }

        void goes(Thing t) {
            for (List<Thing> row : rows) {
                row.remove(t);
            }
            if (2 * size() < rows.size() && rows.size() > 2) {
                int anew = widthAnew();
                totals[4]++;
                lay(rows.size() / 2, anew);
            }
        }

        int push(int name, int hour) {
            comes(new Thing(following, name, hour));
            return following++;
        }

        /** The thing and its looks, found day by day. */
        Logged find() {
            long end = ((long) now / width + 1) * width;
            int looks = 0;
            for (int i = 0; i < rows.size(); i++) {
                List<Thing> row = rows.get((int) ((end / width - 1) % rows.size()));
                looks++;
                if (!row.isEmpty() && row.get(0).hour < end) {
                    Thing t = row.get(0);
                    return new Logged(t.number, t.name, t.hour, looks);
                }
                end += width;
            }
            Thing t = waiting().get(0);
            return new Logged(t.number, t.name, t.hour, -looks - rows.size());
        }

        void take() {
            Logged found = find();
            boolean jump = found.looks < 0;
            if (jump) {
                totals[2]++;
            }
            int looks = Math.abs(found.looks);
            totals[0] += looks;
            totals[5]++;
            taken[found.name]++;
            log.add(0, new Logged(found.number, found.name, found.hour, looks));
            if (log.size() > 50) {
                log.remove(50);
            }
            now = found.hour;
            goes(new Thing(found.number, found.name, found.hour));
            for (Rule rule : rules) {
                if (rule.name == found.name) {
                    if (size() == 200 || found.hour + rule.gap > 999999999) {
                        totals[6]++;
                        lost[rule.other]++;
                    } else {
                        push(rule.other, found.hour + rule.gap);
                    }
                }
            }
        }

        int takeMost(int n, int hour) {
            int many = 0;
            while (many < n && size() > 0 && waiting().get(0).hour <= hour) {
                take();
                many++;
            }
            return many;
        }

        int looksBy(int many, int newWidth) {
            State s = new State();
            s.now = now;
            s.lay(many, newWidth);
            for (Thing t : waiting()) {
                s.put(t);
            }
            int sum = 0;
            while (s.size() > 0) {
                Logged found = s.find();
                sum += Math.abs(found.looks);
                s.now = found.hour;
                for (List<Thing> row : s.rows) {
                    row.remove(new Thing(found.number, found.name, found.hour));
                }
            }
            return sum;
        }

        String told() {
            StringBuilder text = new StringBuilder("rows " + rows.size() + ";wide " + width);
            for (Thing t : waiting()) {
                text.append(";at " + t.hour + " " + names.get(t.name));
            }
            for (Rule r : rules) {
                text.append(";after " + names.get(r.name) + " in " + r.gap + " " + names.get(r.other));
            }
            return text.toString();
        }
    }

    private State state = new State();
    private final List<State> undo = new ArrayList<>();
    private final State[] shelves = new State[2];
    private String tape = "";

    private void act() {
        undo.add(state.copy());
        if (undo.size() > 10) {
            undo.remove(0);
        }
    }

    private boolean noName(int name) {
        return name < 0 || name >= state.names.size();
    }

    private static boolean out(long value, long least, long most) {
        return value < least || value > most;
    }

    private static boolean noRows(int rows) {
        return !Arrays.asList(2, 4, 8, 16, 32, 64).contains(rows);
    }

    public int feed(int a, int b, int c, int d, int e) {
        if (tape.length() > 380) {
            return NONE;
        }
        for (int n : new int[] {a, b, c, d, e}) {
            tape += "" + (char) (n >>> 24) + (char) (n >>> 16 & 255) + (char) (n >>> 8 & 255) + (char) (n & 255);
        }
        return tape.length();
    }

    public int end(int n) {
        if (out(n, 0, tape.length())) {
            return NONE;
        }
        tape = tape.substring(0, n);
        return n;
    }

    public int tell() {
        String text = tape;
        tape = "";
        State told = new State();
        int fault = new ModelText(text, told).fault();
        if (fault != 0) {
            return -2 - fault;
        }
        state = told;
        undo.clear();
        return state.size();
    }

    public int name() {
        String word = tape;
        tape = "";
        if (!word.matches("[a-z]{1,6}")) {
            return -2;
        }
        if (state.names.contains(word)) {
            return state.names.indexOf(word);
        }
        if (state.names.size() == 16) {
            return -3;
        }
        act();
        state.names.add(word);
        return state.names.size() - 1;
    }

    public int push(int name, int hour) {
        if (noName(name) || out(hour, 0, 999999999)) {
            return NONE;
        }
        if (hour < state.now) {
            return -2;
        }
        if (state.size() >= 200) {
            return -3;
        }
        act();
        return state.push(name, hour);
    }

    public int take(int n) {
        if (out(n, 1, 99)) {
            return NONE;
        }
        if (state.size() == 0) {
            return -2;
        }
        act();
        return state.takeMost(n, 999999999);
    }

    public int until(int hour) {
        if (out(hour, 0, 999999999)) {
            return NONE;
        }
        if (state.waiting().stream().noneMatch(t -> t.hour <= hour)) {
            return -2;
        }
        act();
        return state.takeMost(999, hour);
    }

    public int cancel(int number) {
        Thing t = state.byNumber(number);
        if (t == null) {
            return NONE;
        }
        act();
        state.totals[7]++;
        state.goes(t);
        return state.size();
    }

    private int cancelAll(List<Thing> some) {
        if (some.isEmpty()) {
            return -2;
        }
        act();
        for (Thing t : some) {
            state.totals[7]++;
            state.goes(t);
        }
        return some.size();
    }

    public int clear(int name) {
        return noName(name) ? NONE : cancelAll(state.ofName(name));
    }

    public int postpone(int number, int hour) {
        Thing t = state.byNumber(number);
        if (t == null || out(hour, 0, 999999999)) {
            return NONE;
        }
        if (hour < state.now) {
            return -2;
        }
        if (hour == t.hour) {
            return -3;
        }
        act();
        state.goes(t);
        state.comes(new Thing(number, t.name, hour));
        return t.hour;
    }

    public int series(int name, int gap, int hour, int count) {
        if (noName(name) || out(gap, 1, 999999) || out(hour, 0, 999999999) || out(count, 1, 50)) {
            return NONE;
        }
        if (hour < state.now) {
            return -2;
        }
        if (state.size() + count > 200 || out(hour + (count - 1L) * gap, 0, 999999999)) {
            return -3;
        }
        act();
        int first = state.following;
        for (int k = 0; k < count; k++) {
            state.push(name, hour + k * gap);
        }
        return first;
    }

    public int shift(int name, int hours) {
        if (noName(name) || out(hours, 1, 999999)) {
            return NONE;
        }
        List<Thing> some = state.ofName(name);
        if (some.isEmpty()) {
            return -2;
        }
        if (some.stream().anyMatch(t -> t.hour + hours > 999999999)) {
            return -3;
        }
        act();
        for (Thing t : some) {
            state.goes(t);
            state.comes(new Thing(t.number, name, t.hour + hours));
        }
        return some.size();
    }

    public int merge(int name, int other) {
        if (noName(name) || noName(other) || name == other) {
            return NONE;
        }
        List<Thing> some = state.ofName(name);
        if (some.isEmpty()) {
            return -2;
        }
        act();
        for (List<Thing> row : state.rows) {
            row.replaceAll(t -> t.name == name ? new Thing(t.number, other, t.hour) : t);
        }
        return some.size();
    }

    public int cut(int hour) {
        if (out(hour, 0, 999999999)) {
            return NONE;
        }
        return cancelAll(state.waiting().stream().filter(t -> t.hour >= hour).toList());
    }

    public int swap(int number, int other) {
        Thing a = state.byNumber(number);
        Thing b = state.byNumber(other);
        if (a == null || b == null || number == other) {
            return NONE;
        }
        if (a.hour == b.hour) {
            return -2;
        }
        act();
        state.goes(a);
        state.goes(b);
        state.comes(new Thing(number, a.name, b.hour));
        state.comes(new Thing(other, b.name, a.hour));
        return 1;
    }

    public int rule(int name, int other, int gap) {
        if (noName(name) || noName(other) || out(gap, 1, 999999)) {
            return NONE;
        }
        if (state.rules.size() >= 12) {
            return -2;
        }
        act();
        state.rules.add(new Rule(name, other, gap));
        return state.rules.size() - 1;
    }

    public int unrule(int rule) {
        if (out(rule, 0, state.rules.size() - 1)) {
            return NONE;
        }
        act();
        state.rules.remove(rule);
        return state.rules.size();
    }

    public int resize(int rows, int width) {
        if (noRows(rows) || out(width, 1, 99999999)) {
            return NONE;
        }
        int before = state.rows.size();
        if (before == rows && state.width == width) {
            return -2;
        }
        act();
        state.lay(rows, width);
        return before;
    }

    public int undo() {
        if (undo.isEmpty()) {
            return NONE;
        }
        state = undo.remove(undo.size() - 1);
        return undo.size();
    }

    public int keep(int shelf) {
        if (out(shelf, 0, 1)) {
            return NONE;
        }
        shelves[shelf] = state.copy();
        return state.size();
    }

    public int back(int shelf) {
        if (out(shelf, 0, 1)) {
            return NONE;
        }
        if (shelves[shelf] == null) {
            return -2;
        }
        state = shelves[shelf].copy();
        undo.clear();
        return state.size();
    }

    public int next(int k, int what) {
        List<Thing> all = state.waiting();
        if (out(k, 0, all.size() - 1) || out(what, 0, 3)) {
            return NONE;
        }
        Thing t = all.get(k);
        return new int[] {t.number, t.name, t.hour, t.hour / state.width % state.rows.size()}[what];
    }

    public int of(int number, int what) {
        Thing t = state.byNumber(number);
        if (t == null || out(what, 0, 4)) {
            return NONE;
        }
        int row = t.hour / state.width % state.rows.size();
        int[] answers = {state.waiting().indexOf(t), t.name, t.hour, row, state.rows.get(row).indexOf(t)};
        return answers[what];
    }

    public int row(int row, int k) {
        if (out(row, 0, state.rows.size() - 1) || k < NONE) {
            return NONE;
        }
        List<Thing> things = state.rows.get(row);
        if (k == NONE) {
            return things.size();
        }
        return k >= things.size() ? -2 : things.get(k).number;
    }

    public int letter(int name, int k) {
        if (noName(name) || out(k, 0, state.names.get(name).length() - 1)) {
            return NONE;
        }
        return state.names.get(name).charAt(k);
    }

    public int named(int name, int what) {
        if (noName(name) || out(what, 0, 4)) {
            return NONE;
        }
        List<Thing> some = state.ofName(name);
        int rules = (int) state.rules.stream().filter(r -> r.name == name).count();
        int first = some.isEmpty() ? -2 : some.get(0).hour;
        return new int[] {some.size(), first, state.taken[name], rules, state.lost[name]}[what];
    }

    public int ruled(int rule, int what) {
        if (out(rule, 0, state.rules.size() - 1) || out(what, 0, 2)) {
            return NONE;
        }
        Rule r = state.rules.get(rule);
        return new int[] {r.name, r.other, r.gap}[what];
    }

    public int log(int k, int what) {
        if (out(k, 0, state.log.size() - 1) || out(what, 0, 3)) {
            return NONE;
        }
        Logged l = state.log.get(k);
        return new int[] {l.number, l.name, l.hour, l.looks}[what];
    }

    public int total(int what) {
        return out(what, 0, 7) ? NONE : state.totals[what];
    }

    public int skew(int what) {
        if (out(what, 0, 5)) {
            return NONE;
        }
        if (what < 3) {
            return skewBy(state.rows.size(), state.width, what);
        }
        List<Thing> all = state.waiting();
        if (what == 3) {
            int most = 0;
            for (Thing t : all) {
                most = Math.max(most, (int) all.stream().filter(o -> o.hour == t.hour).count());
            }
            return most;
        }
        long sum = 0;
        int greatest = 0;
        for (int i = 1; i < all.size(); i++) {
            int gap = all.get(i).hour - all.get(i - 1).hour;
            sum += gap;
            greatest = Math.max(greatest, gap);
        }
        return what == 5 ? greatest : all.size() < 2 ? 0 : (int) (sum / (all.size() - 1));
    }

    public int looks() {
        return state.size() == 0 ? -2 : Math.abs(state.find().looks);
    }

    public int lookBy(int rows, int width) {
        return noRows(rows) || out(width, 1, 99999999) ? NONE : state.looksBy(rows, width);
    }

    public int best(int rows, int what) {
        if (noRows(rows) || out(what, 0, 1)) {
            return NONE;
        }
        TreeMap<Integer, Integer> widths = new TreeMap<>();
        for (int i = 26; i >= 0; i--) {
            widths.put(state.looksBy(rows, 1 << i), 1 << i);
        }
        return what == 0 ? widths.firstEntry().getValue() : widths.firstKey();
    }

    public int widthNow() {
        return state.widthAnew();
    }

    public int ahead(int n, int what) {
        if (out(n, 1, 300) || out(what, 0, 4)) {
            return NONE;
        }
        State s = state.copy();
        if (s.takeMost(n, 999999999) < n) {
            return -2;
        }
        Logged last = s.log.get(0);
        return new int[] {last.number, last.name, last.hour, s.size(), s.totals[0] - state.totals[0]}[what];
    }

    public int between(int from, int to) {
        if (out(from, 0, 1000000000) || out(to, 0, 1000000000) || to <= from) {
            return NONE;
        }
        return (int) state.waiting().stream().filter(t -> t.hour >= from && t.hour < to).count();
    }

    public int crowd(int hours, int what) {
        if (out(hours, 1, 999999999) || out(what, 0, 1)) {
            return NONE;
        }
        int most = 0;
        int first = -2;
        for (Thing t : state.waiting()) {
            int many = (int) state.waiting().stream()
                .filter(o -> o.hour >= t.hour && o.hour < (long) t.hour + hours).count();
            if (many > most) {
                most = many;
                first = t.hour;
            }
        }
        return what == 0 ? most : first;
    }

    public int busiest(int n, int what) {
        if (out(n, 1, 300) || out(what, 0, 1)) {
            return NONE;
        }
        if (state.size() == 0) {
            return -2;
        }
        State s = state.copy();
        int[] often = new int[16];
        for (int i = 0; i < n && s.size() > 0; i++) {
            s.take();
            often[s.log.get(0).name]++;
        }
        int most = Arrays.stream(often).max().getAsInt();
        for (int name = 0; ; name++) {
            if (often[name] == most) {
                return what == 0 ? name : most;
            }
        }
    }

    /** All ways of rules that pass no name twice, but for the first one at the end. */
    private void ways(int from, int goal, List<Integer> way, List<Integer> passed, List<List<Integer>> all) {
        for (int i = 0; i < state.rules.size(); i++) {
            Rule r = state.rules.get(i);
            if (r.name != from) {
                continue;
            }
            way.add(i);
            if (r.other == goal) {
                all.add(new ArrayList<>(way));
            } else if (!passed.contains(r.other)) {
                passed.add(r.other);
                ways(r.other, goal, way, passed, all);
                passed.remove(passed.size() - 1);
            }
            way.remove(way.size() - 1);
        }
    }

    private int hoursOf(List<Integer> way) {
        return way.stream().mapToInt(i -> state.rules.get(i).gap).sum();
    }

    private List<Integer> bestWay(int name, int other) {
        List<List<Integer>> all = new ArrayList<>();
        ways(name, other, new ArrayList<>(), new ArrayList<>(List.of(name)), all);
        List<Integer> best = null;
        for (List<Integer> way : all) {
            // They are found in order: of like ones the first has the least rule where they are unlike.
            boolean better = best == null || hoursOf(way) < hoursOf(best)
                || hoursOf(way) == hoursOf(best) && way.size() < best.size();
            best = better ? way : best;
        }
        return best;
    }

    public int leads(int name, int other) {
        if (noName(name) || noName(other)) {
            return NONE;
        }
        return bestWay(name, other) == null ? 0 : 1;
    }

    public int soonest(int name, int other) {
        if (noName(name) || noName(other)) {
            return NONE;
        }
        List<Integer> way = bestWay(name, other);
        return way == null ? -2 : hoursOf(way);
    }

    public int day(int k) {
        if (out(k, 0, 999)) {
            return NONE;
        }
        long from = ((long) state.now / state.width + k) * state.width;
        return (int) state.waiting().stream().filter(t -> t.hour >= from && t.hour < from + state.width).count();
    }

    public int free(int hours, int from) {
        if (out(hours, 1, 999999999) || out(from, 0, 999999999)) {
            return NONE;
        }
        List<Thing> all = state.waiting();
        List<Integer> starts = new ArrayList<>(List.of(from));
        all.forEach(t -> starts.add(t.hour + 1));
        int best = -2;
        for (int start : starts) {
            long last = (long) start + hours - 1;
            boolean good = start >= from && last <= 999999999
                && all.stream().noneMatch(t -> t.hour >= start && t.hour <= last);
            if (good && (best == -2 || start < best)) {
                best = start;
            }
        }
        return best;
    }

    public int pair(int what) {
        if (out(what, 0, 1)) {
            return NONE;
        }
        List<Thing> all = state.waiting();
        int best = -2;
        int number = -2;
        for (int i = all.size() - 2; i >= 0; i--) {
            int gap = all.get(i + 1).hour - all.get(i).hour;
            if (best == -2 || gap <= best) {
                best = gap;
                number = all.get(i).number;
            }
        }
        return what == 0 ? best : number;
    }

    public int when(int name, int m) {
        if (noName(name) || out(m, 1, 99)) {
            return NONE;
        }
        State s = state.copy();
        int many = 0;
        for (int i = 0; i < 300 && s.size() > 0; i++) {
            s.take();
            if (s.log.get(0).name == name && ++many == m) {
                return s.now;
            }
        }
        return -2;
    }

    public int same(int shelf, int what) {
        if (out(shelf, 0, 1) || out(what, 0, 1)) {
            return NONE;
        }
        State kept = shelves[shelf];
        if (kept == null) {
            return -2;
        }
        boolean same = what == 0 ? kept.waiting().equals(state.waiting()) : kept.rules.equals(state.rules);
        return same ? 1 : 0;
    }

    public int told(int k) {
        if (k < NONE) {
            return NONE;
        }
        String text = state.told();
        return k == NONE ? text.length() : k >= text.length() ? -2 : text.charAt(k);
    }

    public int share(int p) {
        if (out(p, 1, 100)) {
            return NONE;
        }
        List<Thing> all = state.waiting();
        for (int many = 1; many <= all.size(); many++) {
            if (many * 100 >= p * all.size()) {
                return all.get(many - 1).hour;
            }
        }
        return -2;
    }

    public int bestRows(int width, int what) {
        if (out(width, 1, 99999999) || out(what, 0, 1)) {
            return NONE;
        }
        TreeMap<Integer, Integer> rows = new TreeMap<>();
        for (int i = 6; i >= 1; i--) {
            rows.put(state.looksBy(1 << i, width), 1 << i);
        }
        return what == 0 ? rows.firstEntry().getValue() : rows.firstKey();
    }

    public int skewBy(int rows, int width, int what) {
        if (noRows(rows) || out(width, 1, 99999999) || out(what, 0, 2)) {
            return NONE;
        }
        State s = state.copy();
        s.lay(rows, width);
        int most = s.rows.stream().mapToInt(List::size).max().getAsInt();
        int first = 0;
        while (s.rows.get(first).size() != most) {
            first++;
        }
        int empty = (int) s.rows.stream().filter(List::isEmpty).count();
        return new int[] {most, first, empty}[what];
    }

    public int longest(int what) {
        if (out(what, 0, 1)) {
            return NONE;
        }
        List<Thing> all = state.waiting();
        int most = 0;
        int number = -2;
        for (int i = 0; i < all.size(); i++) {
            int end = i;
            while (end < all.size() && all.get(end).name == all.get(i).name) {
                end++;
            }
            if (end - i > most) {
                most = end - i;
                number = all.get(i).number;
            }
        }
        return what == 0 ? most : number;
    }

    public int way(int name, int other, int k) {
        if (noName(name) || noName(other) || k < NONE) {
            return NONE;
        }
        List<Integer> way = bestWay(name, other);
        if (way == null || k >= way.size()) {
            return -2;
        }
        return k == NONE ? way.size() : way.get(k);
    }

    public int by(int hour, int what) {
        if (out(hour, 0, 999999999) || out(what, 0, 2)) {
            return NONE;
        }
        State s = state.copy();
        int many = s.takeMost(300, hour);
        return new int[] {many, s.totals[0] - state.totals[0], s.size()}[what];
    }

    public long digest() {
        long sum = 17;
        for (Thing t : state.waiting()) {
            sum = ((sum * 31 + t.number) * 31 + t.name) * 31 + t.hour;
        }
        return sum;
    }

    public int count(int what) {
        int kept = (shelves[0] == null ? 0 : 1) + (shelves[1] == null ? 0 : 2);
        int[] answers = {state.size(), state.rows.size(), state.width, state.now, state.names.size(),
            state.rules.size(), undo.size(), tape.length(), kept, state.following};
        return out(what, 0, 9) ? NONE : answers[what];
    }
}
