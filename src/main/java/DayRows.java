/** A calendar of due things in day rows that grow; the document DOC.md tells what each call answers. */
public final class DayRows {
    public static final int NONE = -1;

    // What a call answers, besides NONE, where it can't do what it is asked.
    private static final int REFUSED = -2;
    private static final int REFUSED_TOO = -3;

    private static final int MOST_NAMES = 16;
    private static final int MOST_LETTERS = 6;
    private static final int MOST_WAITING = 200;
    private static final int MOST_RULES = 12;
    private static final int MOST_ROWS = 64;
    private static final int LEAST_ROWS = 2;
    private static final int MOST_BYTES = 400;
    private static final int MOST_LOGGED = 50;
    private static final int MOST_UNDONE = 10;
    private static final int SHELVES = 2;

    private static final int LAST_HOUR = 999999999;
    private static final int MOST_WIDTH = 99999999;
    private static final int MOST_GAP = 999999;
    private static final int MOST_IN_SERIES = 50;
    private static final int MOST_TAKES = 99;
    private static final int MOST_UNTIL = 999;
    private static final int MOST_TRIED = 300;
    private static final int LAST_DAY = 999;
    private static final int WIDEST_TRIED = 67108864;

    private static final int BYTES_FED = 20;
    private static final int SAMPLE = 10;

    // The places of the totals, which total() tells by these numbers.
    private static final int LOOKS = 0;
    private static final int MOVES = 1;
    private static final int JUMPS = 2;
    private static final int GROWN = 3;
    private static final int SHRUNK = 4;
    private static final int TAKEN = 5;
    private static final int LOST = 6;
    private static final int CANCELLED = 7;
    private static final int TOTALS = 8;

    // Five bits hold a letter, 1 to 26, so that an int holds a NAME.
    private static final int LETTER_BITS = 5;
    private static final int LETTER_MASK = 31;

    private final Calendar calendar;
    // Where calls that ask what would be, and texts that may be faulty, try things out.
    private final Calendar trial;
    private final Tape tape;
    private final Reader reader;
    private final Teller teller;
    private final Ways ways;
    private final History history;
    private final Calendar[] shelves;
    private final int[] loads;
    private final int[] picked;
    private int keptShelves;

    public DayRows() {
        calendar = new Calendar();
        trial = new Calendar();
        tape = new Tape();
        reader = new Reader(tape, trial);
        teller = new Teller();
        ways = new Ways();
        history = new History();
        shelves = new Calendar[SHELVES];
        for (int shelf = 0; shelf < SHELVES; shelf++) {
            shelves[shelf] = new Calendar();
        }
        loads = new int[MOST_ROWS];
        picked = new int[MOST_WAITING];
        keptShelves = 0;
    }

    public int feed(int a, int b, int c, int d, int e) {
        if (tape.length + BYTES_FED > MOST_BYTES) {
            return NONE;
        }
        tape.addFour(a);
        tape.addFour(b);
        tape.addFour(c);
        tape.addFour(d);
        tape.addFour(e);
        return tape.length;
    }

    public int end(int n) {
        if (n < 0 || n > tape.length) {
            return NONE;
        }
        tape.length = n;
        return n;
    }

    public int tell() {
        int fault = reader.readAll();
        tape.length = 0;
        if (fault != 0) {
            return -2 - fault;
        }
        calendar.copyFrom(trial);
        history.forget();
        return calendar.things.count;
    }

    public int name() {
        int word = tape.asWord();
        tape.length = 0;
        if (word == 0) {
            return REFUSED;
        }
        int known = calendar.names.find(word);
        if (known != NONE) {
            return known;
        }
        if (calendar.names.count >= MOST_NAMES) {
            return REFUSED_TOO;
        }
        history.remember(calendar);
        return calendar.names.findOrAdd(word);
    }

    public int push(int name, int hour) {
        if (!calendar.names.has(name) || !isHour(hour)) {
            return NONE;
        }
        if (hour < calendar.now) {
            return REFUSED;
        }
        if (calendar.things.count >= MOST_WAITING) {
            return REFUSED_TOO;
        }
        history.remember(calendar);
        return calendar.comesOften(name, 1, hour, 1);
    }

    public int take(int n) {
        if (n < 1 || n > MOST_TAKES) {
            return NONE;
        }
        if (calendar.things.count < 1) {
            return REFUSED;
        }
        history.remember(calendar);
        return calendar.takeSome(n);
    }

    public int until(int hour) {
        if (!isHour(hour)) {
            return NONE;
        }
        if (!calendar.waitsBy(hour)) {
            return REFUSED;
        }
        history.remember(calendar);
        return calendar.takeDue(hour, MOST_UNTIL);
    }

    public int cancel(int number) {
        int place = calendar.things.placeOf(number);
        if (place == NONE) {
            return NONE;
        }
        history.remember(calendar);
        calendar.cancelAt(place);
        return calendar.things.count;
    }

    public int clear(int name) {
        if (!calendar.names.has(name)) {
            return NONE;
        }
        int many = calendar.things.countOf(name);
        if (many == 0) {
            return REFUSED;
        }
        history.remember(calendar);
        for (int gone = 0; gone < many; gone++) {
            calendar.cancelAt(calendar.things.firstOf(name));
        }
        return many;
    }

    public int postpone(int number, int hour) {
        int place = calendar.things.placeOf(number);
        if (place == NONE || !isHour(hour)) {
            return NONE;
        }
        if (hour < calendar.now) {
            return REFUSED;
        }
        int before = calendar.things.hours[place];
        if (before == hour) {
            return REFUSED_TOO;
        }
        history.remember(calendar);
        calendar.putOff(place, hour);
        return before;
    }

    public int series(int name, int gap, int hour, int count) {
        boolean told = calendar.names.has(name) && isGap(gap) && isHour(hour)
            && count >= 1 && count <= MOST_IN_SERIES;
        if (!told) {
            return NONE;
        }
        if (hour < calendar.now) {
            return REFUSED;
        }
        if (!calendar.hasRoomFor(gap, hour, count)) {
            return REFUSED_TOO;
        }
        history.remember(calendar);
        return calendar.comesOften(name, gap, hour, count);
    }

    public int shift(int name, int hours) {
        if (!calendar.names.has(name) || !isGap(hours)) {
            return NONE;
        }
        Things things = calendar.things;
        int many = things.pickAll(name, picked);
        if (many == 0) {
            return REFUSED;
        }
        if (things.lastHourOf(name) + hours > LAST_HOUR) {
            return REFUSED_TOO;
        }
        history.remember(calendar);
        for (int k = 0; k < many; k++) {
            int place = things.placeOf(picked[k]);
            if (place != NONE) {
                calendar.putOff(place, things.hours[place] + hours);
            }
        }
        return many;
    }

    public int merge(int name, int other) {
        if (!calendar.names.has(name) || !calendar.names.has(other) || name == other) {
            return NONE;
        }
        if (calendar.things.countOf(name) == 0) {
            return REFUSED;
        }
        history.remember(calendar);
        return calendar.things.rename(name, other);
    }

    public int cut(int hour) {
        if (!isHour(hour)) {
            return NONE;
        }
        int first = calendar.things.firstFrom(hour);
        int many = calendar.things.count - first;
        if (many == 0) {
            return REFUSED;
        }
        history.remember(calendar);
        for (int gone = 0; gone < many; gone++) {
            calendar.cancelAt(first);
        }
        return many;
    }

    public int swap(int number, int other) {
        Things things = calendar.things;
        int place = things.placeOf(number);
        int otherPlace = things.placeOf(other);
        if (place == NONE || otherPlace == NONE || place == otherPlace) {
            return NONE;
        }
        int hour = things.hours[place];
        int otherHour = things.hours[otherPlace];
        if (hour == otherHour) {
            return REFUSED;
        }
        int name = things.names[place];
        int otherName = things.names[otherPlace];
        history.remember(calendar);
        calendar.goes(place);
        calendar.goes(things.placeOf(other));
        calendar.comes(number, name, otherHour);
        calendar.comes(other, otherName, hour);
        return 1;
    }

    public int rule(int name, int other, int gap) {
        if (!calendar.names.has(name) || !calendar.names.has(other) || !isGap(gap)) {
            return NONE;
        }
        if (calendar.rules.count >= MOST_RULES) {
            return REFUSED;
        }
        history.remember(calendar);
        return calendar.rules.add(name, other, gap);
    }

    public int unrule(int rule) {
        if (!calendar.rules.has(rule)) {
            return NONE;
        }
        history.remember(calendar);
        calendar.rules.removeAt(rule);
        return calendar.rules.count;
    }

    public int resize(int rows, int width) {
        if (!isRows(rows) || !isWidth(width)) {
            return NONE;
        }
        int before = calendar.rows;
        if (rows == before && width == calendar.width) {
            return REFUSED;
        }
        history.remember(calendar);
        calendar.lay(rows, width);
        return before;
    }

    public int undo() {
        if (history.count < 1) {
            return NONE;
        }
        history.bringBack(calendar);
        return history.count;
    }

    public int keep(int shelf) {
        if (!isShelf(shelf)) {
            return NONE;
        }
        shelves[shelf].copyFrom(calendar);
        keptShelves |= 1 << shelf;
        return calendar.things.count;
    }

    public int back(int shelf) {
        if (!isShelf(shelf)) {
            return NONE;
        }
        if (!isKept(shelf)) {
            return REFUSED;
        }
        calendar.copyFrom(shelves[shelf]);
        history.forget();
        return calendar.things.count;
    }

    public int next(int k, int what) {
        if (!calendar.things.has(k)) {
            return NONE;
        }
        switch (what) {
            case 0: return calendar.things.numbers[k];
            case 1: return calendar.things.names[k];
            case 2: return calendar.things.hours[k];
            case 3: return calendar.rowAt(k);
            default: return NONE;
        }
    }

    public int of(int number, int what) {
        int place = calendar.things.placeOf(number);
        if (place == NONE) {
            return NONE;
        }
        switch (what) {
            case 0: return place;
            case 1: return calendar.things.names[place];
            case 2: return calendar.things.hours[place];
            case 3: return calendar.rowAt(place);
            case 4: return calendar.countInRow(calendar.rowAt(place), place);
            default: return NONE;
        }
    }

    public int row(int row, int k) {
        if (row < 0 || row >= calendar.rows || k < NONE) {
            return NONE;
        }
        if (k == NONE) {
            return calendar.countInRow(row, calendar.things.count);
        }
        int place = calendar.placeInRow(row, k);
        return place == NONE ? REFUSED : calendar.things.numbers[place];
    }

    public int letter(int name, int k) {
        return calendar.names.has(name) ? letterAt(calendar.names.words[name], k) : NONE;
    }

    public int named(int name, int what) {
        if (!calendar.names.has(name)) {
            return NONE;
        }
        switch (what) {
            case 0: return calendar.things.countOf(name);
            case 1: return calendar.things.firstHourOf(name);
            case 2: return calendar.names.taken[name];
            case 3: return calendar.rules.countOf(name);
            case 4: return calendar.names.lost[name];
            default: return NONE;
        }
    }

    public int ruled(int rule, int what) {
        if (!calendar.rules.has(rule)) {
            return NONE;
        }
        switch (what) {
            case 0: return calendar.rules.names[rule];
            case 1: return calendar.rules.others[rule];
            case 2: return calendar.rules.gaps[rule];
            default: return NONE;
        }
    }

    public int log(int k, int what) {
        return calendar.log.at(k, what);
    }

    public int total(int what) {
        return what < 0 || what >= TOTALS ? NONE : calendar.totals[what];
    }

    public int skew(int what) {
        switch (what) {
            case 0:
            case 1:
            case 2: return skewIn(calendar.rows, calendar.width, what);
            case 3: return calendar.things.mostWithin(1, 0);
            case 4: return calendar.things.meanGap();
            case 5: return calendar.things.greatestGap();
            default: return NONE;
        }
    }

    public int looks() {
        if (calendar.things.count < 1) {
            return REFUSED;
        }
        return looksFrom(calendar.now, calendar.things.hours[0], calendar.rows, calendar.width);
    }

    public int lookBy(int rows, int width) {
        return isRows(rows) && isWidth(width) ? calendar.looksForAll(rows, width) : NONE;
    }

    public int best(int rows, int what) {
        if (!isRows(rows) || what < 0 || what > 1) {
            return NONE;
        }
        int bestWidth = 1;
        int least = calendar.looksForAll(rows, 1);
        for (int width = 2; width <= WIDEST_TRIED; width *= 2) {
            int all = calendar.looksForAll(rows, width);
            if (all < least) {
                least = all;
                bestWidth = width;
            }
        }
        return what == 0 ? bestWidth : least;
    }

    public int widthNow() {
        return calendar.things.widthAnew(calendar.width);
    }

    public int ahead(int n, int what) {
        if (n < 1 || n > MOST_TRIED || what < 0 || what > 4) {
            return NONE;
        }
        trial.copyFrom(calendar);
        if (trial.takeSome(n) < n) {
            return REFUSED;
        }
        switch (what) {
            case 3: return trial.things.count;
            case 4: return trial.totals[LOOKS] - calendar.totals[LOOKS];
            default: return trial.log.at(0, what);
        }
    }

    public int between(int from, int to) {
        if (from < 0 || to <= from || to > LAST_HOUR + 1) {
            return NONE;
        }
        return calendar.things.firstFrom(to) - calendar.things.firstFrom(from);
    }

    public int crowd(int hours, int what) {
        if (!isSpan(hours) || what < 0 || what > 1) {
            return NONE;
        }
        return calendar.things.mostWithin(hours, what);
    }

    public int busiest(int n, int what) {
        if (n < 1 || n > MOST_TRIED || what < 0 || what > 1) {
            return NONE;
        }
        if (calendar.things.count < 1) {
            return REFUSED;
        }
        trial.copyFrom(calendar);
        trial.takeSome(n);
        int which = 0;
        for (int name = 1; name < trial.names.count; name++) {
            if (takenInTrial(name) > takenInTrial(which)) {
                which = name;
            }
        }
        return what == 0 ? which : takenInTrial(which);
    }

    public int leads(int name, int other) {
        int hours = soonest(name, other);
        if (hours == NONE) {
            return NONE;
        }
        return hours == REFUSED ? 0 : 1;
    }

    public int soonest(int name, int other) {
        if (!calendar.names.has(name) || !calendar.names.has(other)) {
            return NONE;
        }
        return ways.hoursOf(calendar.rules, name, other);
    }

    public int day(int k) {
        if (k < 0 || k > LAST_DAY) {
            return NONE;
        }
        int day = dayOf(calendar.now, calendar.width) + k;
        int many = 0;
        for (int place = 0; place < calendar.things.count; place++) {
            if (dayOf(calendar.things.hours[place], calendar.width) == day) {
                many++;
            }
        }
        return many;
    }

    public int free(int hours, int from) {
        if (!isSpan(hours) || !isHour(from)) {
            return NONE;
        }
        int first = calendar.things.firstFree(hours, from);
        return first + hours - 1 > LAST_HOUR ? REFUSED : first;
    }

    public int pair(int what) {
        if (what < 0 || what > 1) {
            return NONE;
        }
        int place = calendar.things.closest();
        if (place == NONE) {
            return REFUSED;
        }
        return what == 0 ? calendar.things.gapBehind(place) : calendar.things.numbers[place];
    }

    public int when(int name, int m) {
        if (!calendar.names.has(name) || m < 1 || m > MOST_TAKES) {
            return NONE;
        }
        trial.copyFrom(calendar);
        for (int tried = 0; tried < MOST_TRIED && trial.things.count > 0; tried++) {
            trial.takeFirst();
            if (takenInTrial(name) >= m) {
                return trial.now;
            }
        }
        return REFUSED;
    }

    public int same(int shelf, int what) {
        if (!isShelf(shelf) || what < 0 || what > 1) {
            return NONE;
        }
        if (!isKept(shelf)) {
            return REFUSED;
        }
        Calendar kept = shelves[shelf];
        boolean alike = what == 0 ? calendar.things.isLike(kept.things) : calendar.rules.isLike(kept.rules);
        return alike ? 1 : 0;
    }

    public int told(int k) {
        return k < NONE ? NONE : teller.byteAt(calendar, k);
    }

    public int share(int p) {
        if (p < 1 || p > 100) {
            return NONE;
        }
        int many = calendar.things.count;
        if (many < 1) {
            return REFUSED;
        }
        return calendar.things.hours[(many * p + 99) / 100 - 1];
    }

    public int bestRows(int width, int what) {
        if (!isWidth(width) || what < 0 || what > 1) {
            return NONE;
        }
        int fewest = LEAST_ROWS;
        int least = calendar.looksForAll(LEAST_ROWS, width);
        for (int rows = 2 * LEAST_ROWS; rows <= MOST_ROWS; rows *= 2) {
            int all = calendar.looksForAll(rows, width);
            if (all < least) {
                least = all;
                fewest = rows;
            }
        }
        return what == 0 ? fewest : least;
    }

    public int skewBy(int rows, int width, int what) {
        if (!isRows(rows) || !isWidth(width) || what < 0 || what > 2) {
            return NONE;
        }
        return skewIn(rows, width, what);
    }

    public int longest(int what) {
        return what < 0 || what > 1 ? NONE : calendar.things.longestOfOneName(what);
    }

    public int way(int name, int other, int k) {
        if (!calendar.names.has(name) || !calendar.names.has(other) || k < NONE) {
            return NONE;
        }
        return ways.ruleAt(calendar.rules, name, other, k);
    }

    public int by(int hour, int what) {
        if (!isHour(hour) || what < 0 || what > 2) {
            return NONE;
        }
        trial.copyFrom(calendar);
        int many = trial.takeDue(hour, MOST_TRIED);
        switch (what) {
            case 0: return many;
            case 1: return trial.totals[LOOKS] - calendar.totals[LOOKS];
            default: return trial.things.count;
        }
    }

    public long digest() {
        return calendar.things.digestFrom(17L);
    }

    public int count(int what) {
        switch (what) {
            case 0: return calendar.things.count;
            case 1: return calendar.rows;
            case 2: return calendar.width;
            case 3: return calendar.now;
            case 4: return calendar.names.count;
            case 5: return calendar.rules.count;
            case 6: return history.count;
            case 7: return tape.length;
            case 8: return keptShelves;
            case 9: return calendar.nextNumber;
            default: return NONE;
        }
    }

    private boolean isKept(int shelf) {
        return (keptShelves >> shelf & 1) == 1;
    }

    private int takenInTrial(int name) {
        return name < 0 || name >= MOST_NAMES ? 0 : trial.names.taken[name] - calendar.names.taken[name];
    }

    /** Of so many rows (64 at most): the most things of one (0), the first such one (1), those without any (2). */
    private int skewIn(int rows, int width, int what) {
        int many = Math.min(rows, MOST_ROWS);
        for (int row = 0; row < many; row++) {
            loads[row] = 0;
        }
        for (int k = 0; k < calendar.things.count; k++) {
            loads[rowOf(calendar.things.hours[k], many, width)]++;
        }
        int first = 0;
        int empty = 0;
        for (int row = 0; row < many; row++) {
            if (loads[row] > loads[first]) {
                first = row;
            }
            if (loads[row] == 0) {
                empty++;
            }
        }
        switch (what) {
            case 0: return loads[first];
            case 1: return first;
            default: return empty;
        }
    }

    private static boolean isHour(int hour) {
        return hour >= 0 && hour <= LAST_HOUR;
    }

    private static boolean isSpan(int hours) {
        return hours >= 1 && hours <= LAST_HOUR;
    }

    private static boolean isGap(int gap) {
        return gap >= 1 && gap <= MOST_GAP;
    }

    private static boolean isRows(int rows) {
        return rows >= LEAST_ROWS && rows <= MOST_ROWS && Integer.bitCount(rows) == 1;
    }

    private static boolean isWidth(int width) {
        return width >= 1 && width <= MOST_WIDTH;
    }

    private static boolean isShelf(int shelf) {
        return shelf >= 0 && shelf < SHELVES;
    }

    private static int dayOf(int hour, int width) {
        return width < 1 ? 0 : hour / width;
    }

    private static int rowOf(int hour, int rows, int width) {
        return rows < 1 || hour < 0 ? 0 : dayOf(hour, width) % rows;
    }

    /**
     * The looks by which the first of all is found. Nothing is due ahead of now: so the first day on which
     * a row has something due is the day of the first of all, and no row need be looked into.
     */
    private static int looksFrom(int now, int hour, int rows, int width) {
        int days = dayOf(hour, width) - dayOf(now, width);
        return days < rows ? days + 1 : 2 * rows;
    }

    private static boolean isLetter(int sign) {
        return sign >= 'a' && sign <= 'z';
    }

    private static boolean isDigit(int sign) {
        return sign >= '0' && sign <= '9';
    }

    private static int withLetter(int word, int letter) {
        return word << LETTER_BITS | letter - 'a' + 1;
    }

    private static int lettersIn(int word) {
        int many = 0;
        for (int k = 0; k < MOST_LETTERS; k++) {
            if ((word >> k * LETTER_BITS & LETTER_MASK) != 0) {
                many++;
            }
        }
        return many;
    }

    private static int letterAt(int word, int k) {
        int many = lettersIn(word);
        if (k < 0 || k >= many) {
            return NONE;
        }
        return (word >> (many - 1 - k) * LETTER_BITS & LETTER_MASK) + 'a' - 1;
    }

    /** The names, as words of five bits a letter, and what became of the things of each. */
    private static final class Names {
        int count;
        final int[] words = new int[MOST_NAMES];
        final int[] taken = new int[MOST_NAMES];
        final int[] lost = new int[MOST_NAMES];

        boolean has(int name) {
            return name >= 0 && name < count;
        }

        int find(int word) {
            for (int name = 0; name < count; name++) {
                if (words[name] == word) {
                    return name;
                }
            }
            return NONE;
        }

        /** NONE if there are as many others as there may be. */
        int findOrAdd(int word) {
            int known = find(word);
            if (known != NONE || count >= MOST_NAMES) {
                return known;
            }
            words[count] = word;
            taken[count] = 0;
            lost[count] = 0;
            count++;
            return count - 1;
        }

        void countTaken(int name) {
            if (has(name)) {
                taken[name]++;
            }
        }

        void countLost(int name) {
            if (has(name)) {
                lost[name]++;
            }
        }

        void copyFrom(Names other) {
            count = other.count;
            System.arraycopy(other.words, 0, words, 0, MOST_NAMES);
            System.arraycopy(other.taken, 0, taken, 0, MOST_NAMES);
            System.arraycopy(other.lost, 0, lost, 0, MOST_NAMES);
        }
    }

    /** What waits, those ahead first. The rows are not held: hour, rows and width tell the row of each. */
    private static final class Things {
        int count;
        final int[] numbers = new int[MOST_WAITING];
        final int[] names = new int[MOST_WAITING];
        final int[] hours = new int[MOST_WAITING];

        boolean has(int place) {
            return place >= 0 && place < count;
        }

        int placeOf(int number) {
            for (int k = 0; k < count; k++) {
                if (numbers[k] == number) {
                    return k;
                }
            }
            return NONE;
        }

        /** How many are ahead of a number that is due at an hour. */
        int placeFor(int number, int hour) {
            int low = 0;
            int high = count;
            for (int step = 0; step < MOST_WAITING && low < high; step++) {
                int middle = (low + high) / 2;
                boolean isAhead = hours[middle] < hour || hours[middle] == hour && numbers[middle] < number;
                if (isAhead) {
                    low = middle + 1;
                } else {
                    high = middle;
                }
            }
            return low;
        }

        /** How many are due earlier than an hour. */
        int firstFrom(int hour) {
            return placeFor(NONE, hour);
        }

        /** Nothing happens, if there is no room or the place is none. */
        void insertAt(int place, int number, int name, int hour) {
            if (place < 0 || place > count || count >= MOST_WAITING) {
                return;
            }
            int behind = count - place;
            System.arraycopy(numbers, place, numbers, place + 1, behind);
            System.arraycopy(names, place, names, place + 1, behind);
            System.arraycopy(hours, place, hours, place + 1, behind);
            numbers[place] = number;
            names[place] = name;
            hours[place] = hour;
            count++;
        }

        void removeAt(int place) {
            if (!has(place)) {
                return;
            }
            count--;
            int behind = count - place;
            System.arraycopy(numbers, place + 1, numbers, place, behind);
            System.arraycopy(names, place + 1, names, place, behind);
            System.arraycopy(hours, place + 1, hours, place, behind);
        }

        int countOf(int name) {
            int many = 0;
            for (int k = 0; k < count; k++) {
                if (names[k] == name) {
                    many++;
                }
            }
            return many;
        }

        int firstOf(int name) {
            for (int k = 0; k < count; k++) {
                if (names[k] == name) {
                    return k;
                }
            }
            return NONE;
        }

        int firstHourOf(int name) {
            int place = firstOf(name);
            return place == NONE ? REFUSED : hours[place];
        }

        int lastHourOf(int name) {
            for (int k = count - 1; k >= 0; k--) {
                if (names[k] == name) {
                    return hours[k];
                }
            }
            return REFUSED;
        }

        /** The numbers of all of a name, those ahead first: how many. */
        int pickAll(int name, int[] into) {
            int many = 0;
            for (int k = 0; k < count; k++) {
                if (names[k] == name && many < into.length) {
                    into[many] = numbers[k];
                    many++;
                }
            }
            return many;
        }

        int rename(int name, int other) {
            int many = 0;
            for (int k = 0; k < count; k++) {
                if (names[k] == name) {
                    names[k] = other;
                    many++;
                }
            }
            return many;
        }

        /** 0 without such a place or a next one. */
        int gapBehind(int place) {
            return place < 0 || place + 1 >= count ? 0 : hours[place + 1] - hours[place];
        }

        int meanGap() {
            return count < 2 ? 0 : (hours[count - 1] - hours[0]) / (count - 1);
        }

        int greatestGap() {
            int greatest = 0;
            for (int k = 0; k + 1 < count; k++) {
                greatest = Math.max(greatest, gapBehind(k));
            }
            return greatest;
        }

        /** The first of the two with the least gap; NONE with fewer than two. */
        int closest() {
            int place = count < 2 ? NONE : 0;
            for (int k = 1; k + 1 < count; k++) {
                if (gapBehind(k) < gapBehind(place)) {
                    place = k;
                }
            }
            return place;
        }

        int widthAnew(int width) {
            int sample = Math.min(count, SAMPLE);
            if (sample < 2) {
                return width;
            }
            int mean = (hours[sample - 1] - hours[0]) / (sample - 1);
            int sum = 0;
            int many = 0;
            for (int k = 0; k + 1 < sample; k++) {
                int gap = hours[k + 1] - hours[k];
                if (gap <= 2 * mean) {
                    sum += gap;
                    many++;
                }
            }
            // The least gap is never above the mean: there is always one.
            long triple = many < 1 ? 1L : 3L * (sum / many);
            return (int) Math.max(1L, Math.min(MOST_WIDTH, triple));
        }

        /** The most that are due within a span: how many (0), the hour of the first of them (1). */
        int mostWithin(int span, int what) {
            int most = 0;
            int from = REFUSED;
            int behind = 0;
            for (int k = 0; k < count; k++) {
                while (behind < count && hours[behind] - hours[k] < span) {
                    behind++;
                }
                if (behind - k > most) {
                    most = behind - k;
                    from = hours[k];
                }
            }
            return what == 0 ? most : from;
        }

        /** The first hour, from one on, behind which a span is free; it may end behind the last hour. */
        int firstFree(int span, int from) {
            int first = from;
            for (int k = firstFrom(from); k < count && hours[k] - first < span; k++) {
                first = hours[k] + 1;
            }
            return first;
        }

        /** The most of one name, one behind the other: how many (0), the number of the first of them (1). */
        int longestOfOneName(int what) {
            int most = 0;
            int number = REFUSED;
            int first = 0;
            for (int k = 0; k < count; k++) {
                if (names[k] != names[first]) {
                    first = k;
                }
                if (k - first + 1 > most) {
                    most = k - first + 1;
                    number = numbers[first];
                }
            }
            return what == 0 ? most : number;
        }

        long digestFrom(long start) {
            long sum = start;
            for (int k = 0; k < count; k++) {
                sum = 31L * sum + numbers[k];
                sum = 31L * sum + names[k];
                sum = 31L * sum + hours[k];
            }
            return sum;
        }

        boolean isLike(Things other) {
            if (count != other.count) {
                return false;
            }
            for (int k = 0; k < count; k++) {
                if (numbers[k] != other.numbers[k] || names[k] != other.names[k] || hours[k] != other.hours[k]) {
                    return false;
                }
            }
            return true;
        }

        void copyFrom(Things other) {
            count = other.count;
            System.arraycopy(other.numbers, 0, numbers, 0, count);
            System.arraycopy(other.names, 0, names, 0, count);
            System.arraycopy(other.hours, 0, hours, 0, count);
        }
    }

    /** By which what is taken of a name brings one of another name, a gap later. */
    private static final class Rules {
        int count;
        final int[] names = new int[MOST_RULES];
        final int[] others = new int[MOST_RULES];
        final int[] gaps = new int[MOST_RULES];

        boolean has(int rule) {
            return rule >= 0 && rule < count;
        }

        int countOf(int name) {
            int many = 0;
            for (int rule = 0; rule < count; rule++) {
                if (names[rule] == name) {
                    many++;
                }
            }
            return many;
        }

        int add(int name, int other, int gap) {
            if (count >= MOST_RULES) {
                return NONE;
            }
            names[count] = name;
            others[count] = other;
            gaps[count] = gap;
            count++;
            return count - 1;
        }

        void removeAt(int rule) {
            if (!has(rule)) {
                return;
            }
            count--;
            for (int later = rule; later < count; later++) {
                names[later] = names[later + 1];
                others[later] = others[later + 1];
                gaps[later] = gaps[later + 1];
            }
        }

        boolean isLike(Rules other) {
            if (count != other.count) {
                return false;
            }
            for (int rule = 0; rule < count; rule++) {
                boolean alike = names[rule] == other.names[rule] && others[rule] == other.others[rule]
                    && gaps[rule] == other.gaps[rule];
                if (!alike) {
                    return false;
                }
            }
            return true;
        }

        void copyFrom(Rules other) {
            count = other.count;
            System.arraycopy(other.names, 0, names, 0, count);
            System.arraycopy(other.others, 0, others, 0, count);
            System.arraycopy(other.gaps, 0, gaps, 0, count);
        }
    }

    /** Who was taken last: a ring of entries, each of a number, a name, an hour and looks. */
    private static final class Log {
        private static final int PARTS = 4;

        private int count;
        private int following;
        private final int[] entries = new int[MOST_LOGGED * PARTS];

        void add(int number, int name, int hour, int looks) {
            int place = following * PARTS;
            entries[place] = number;
            entries[place + 1] = name;
            entries[place + 2] = hour;
            entries[place + 3] = looks;
            following = (following + 1) % MOST_LOGGED;
            count = Math.min(count + 1, MOST_LOGGED);
        }

        int at(int k, int part) {
            if (k < 0 || k >= count || part < 0 || part >= PARTS) {
                return NONE;
            }
            int entry = (following + MOST_LOGGED - 1 - k) % MOST_LOGGED;
            return entries[entry * PARTS + part];
        }

        void empty() {
            count = 0;
            following = 0;
        }

        void copyFrom(Log other) {
            count = other.count;
            following = other.following;
            System.arraycopy(other.entries, 0, entries, 0, entries.length);
        }
    }

    /** All that acts change, shelves keep and undo() brings back. */
    private static final class Calendar {
        final Names names = new Names();
        final Things things = new Things();
        final Rules rules = new Rules();
        final Log log = new Log();
        final int[] totals = new int[TOTALS];
        int rows;
        int width;
        int now;
        int nextNumber;

        Calendar() {
            rows = 4;
            width = 10;
        }

        void reset() {
            names.count = 0;
            things.count = 0;
            rules.count = 0;
            log.empty();
            for (int what = 0; what < TOTALS; what++) {
                totals[what] = 0;
            }
            rows = 4;
            width = 10;
            now = 0;
            nextNumber = 0;
        }

        void copyFrom(Calendar other) {
            names.copyFrom(other.names);
            things.copyFrom(other.things);
            rules.copyFrom(other.rules);
            log.copyFrom(other.log);
            System.arraycopy(other.totals, 0, totals, 0, TOTALS);
            rows = other.rows;
            width = other.width;
            now = other.now;
            nextNumber = other.nextNumber;
        }

        void lay(int newRows, int newWidth) {
            rows = newRows;
            width = newWidth;
            totals[MOVES] += things.count;
        }

        void comes(int number, int name, int hour) {
            things.insertAt(things.placeFor(number, hour), number, name, hour);
            if (things.count > 2 * rows && rows < MOST_ROWS) {
                totals[GROWN]++;
                lay(2 * rows, things.widthAnew(width));
            }
        }

        void goes(int place) {
            if (!things.has(place)) {
                return;
            }
            things.removeAt(place);
            if (things.count < rows / 2 && rows > LEAST_ROWS) {
                totals[SHRUNK]++;
                lay(rows / 2, things.widthAnew(width));
            }
        }

        boolean hasRoomFor(int gap, int hour, int count) {
            return things.count + count <= MOST_WAITING && hour + (count - 1) * gap <= LAST_HOUR;
        }

        /** The number of the first one. */
        int comesOften(int name, int gap, int hour, int count) {
            int first = nextNumber;
            for (int k = 0; k < count; k++) {
                nextNumber++;
                comes(nextNumber - 1, name, hour + k * gap);
            }
            return first;
        }

        void cancelAt(int place) {
            if (!things.has(place)) {
                return;
            }
            totals[CANCELLED]++;
            goes(place);
        }

        void putOff(int place, int hour) {
            if (!things.has(place)) {
                return;
            }
            int number = things.numbers[place];
            int name = things.names[place];
            goes(place);
            comes(number, name, hour);
        }

        boolean waitsBy(int hour) {
            return things.count > 0 && things.hours[0] <= hour;
        }

        /** How many were taken. */
        int takeSome(int most) {
            int many = 0;
            while (many < most && things.count > 0) {
                takeFirst();
                many++;
            }
            return many;
        }

        /** How many were taken. */
        int takeDue(int hour, int most) {
            int many = 0;
            while (many < most && waitsBy(hour)) {
                takeFirst();
                many++;
            }
            return many;
        }

        void takeFirst() {
            if (things.count < 1) {
                return;
            }
            int name = things.names[0];
            int hour = things.hours[0];
            int looks = looksFrom(now, hour, rows, width);
            totals[LOOKS] += looks;
            totals[TAKEN]++;
            if (looks > rows) {
                totals[JUMPS]++;
            }
            log.add(things.numbers[0], name, hour, looks);
            now = hour;
            goes(0);
            names.countTaken(name);
            bring(name);
        }

        int looksForAll(int byRows, int byWidth) {
            int sum = 0;
            int from = now;
            for (int k = 0; k < things.count; k++) {
                sum += looksFrom(from, things.hours[k], byRows, byWidth);
                from = things.hours[k];
            }
            return sum;
        }

        int rowAt(int place) {
            return !things.has(place) ? NONE : rowOf(things.hours[place], rows, width);
        }

        /** How many of the first so many things lie in a row. */
        int countInRow(int row, int places) {
            int many = 0;
            for (int k = 0; k < places; k++) {
                if (rowAt(k) == row) {
                    many++;
                }
            }
            return many;
        }

        /** Where the k-th thing of a row is among all; NONE if there is none. */
        int placeInRow(int row, int k) {
            int many = 0;
            for (int place = 0; place < things.count; place++) {
                if (rowAt(place) == row) {
                    if (many == k) {
                        return place;
                    }
                    many++;
                }
            }
            return NONE;
        }

        private void bring(int name) {
            for (int rule = 0; rule < rules.count; rule++) {
                if (rules.names[rule] == name) {
                    int other = rules.others[rule];
                    int hour = now + rules.gaps[rule];
                    if (hasRoomFor(1, hour, 1)) {
                        nextNumber++;
                        comes(nextNumber - 1, other, hour);
                    } else {
                        totals[LOST]++;
                        names.countLost(other);
                    }
                }
            }
        }
    }

    /** The bytes that are fed, for a text or a name. */
    private static final class Tape {
        int length;
        private final byte[] bytes = new byte[MOST_BYTES];

        void addFour(int number) {
            for (int bits = 24; bits >= 0 && length < MOST_BYTES; bits -= 8) {
                bytes[length] = (byte) (number >> bits);
                length++;
            }
        }

        /** The byte at a place, 0 to 255; NONE behind the last one. */
        int at(int place) {
            return place < 0 || place >= length ? NONE : bytes[place] & 255;
        }

        /** All of it as the word of a name; 0 if it is none. */
        int asWord() {
            if (length > MOST_LETTERS) {
                return 0;
            }
            int word = 0;
            for (int place = 0; place < length; place++) {
                if (!isLetter(at(place))) {
                    return 0;
                }
                word = withLetter(word, at(place));
            }
            return word;
        }
    }

    /** Reads the tape as a text that tells a calendar; behind the first fault nothing counts any more. */
    private static final class Reader {
        private static final int CANNOT_STAND = 1;
        private static final int NOT_AS_TOLD = 2;
        private static final int TOO_MANY_NAMES = 3;
        private static final int TOO_MUCH = 4;

        private final Tape tape;
        private final Calendar into;
        private int at;
        private int fault;

        Reader(Tape tape, Calendar into) {
            this.tape = tape;
            this.into = into;
        }

        /** The fault, 0 without one. */
        int readAll() {
            into.reset();
            at = 0;
            fault = 0;
            // Each statement but the last one has a byte behind it.
            for (int read = 0; read <= MOST_BYTES; read++) {
                readStatement();
                skipBlanks();
                if (fault != 0 || at >= tape.length) {
                    return fault;
                }
                if (tape.at(at) != ';') {
                    fail(at, CANNOT_STAND);
                    return fault;
                }
                at++;
            }
            return fault;
        }

        private void readStatement() {
            skipBlanks();
            int start = at;
            if (passes("rows")) {
                readRows();
            } else if (passes("wide")) {
                readWide();
            } else if (passes("at")) {
                readAt(start);
            } else if (passes("every")) {
                readEvery(start);
            } else if (passes("after")) {
                readAfter(start);
            } else {
                fail(start, CANNOT_STAND);
            }
        }

        private void readRows() {
            skipBlanks();
            int start = at;
            int rows = readNumber(LEAST_ROWS, MOST_ROWS);
            if (!isRows(rows)) {
                fail(start, NOT_AS_TOLD);
            }
            if (fault == 0 && rows != into.rows) {
                into.lay(rows, into.width);
            }
        }

        private void readWide() {
            int width = readNumber(1, MOST_WIDTH);
            if (fault == 0 && width != into.width) {
                into.lay(into.rows, width);
            }
        }

        private void readAt(int start) {
            int hour = readNumber(0, LAST_HOUR);
            int name = readName();
            if (fits(start, 1, hour, 1)) {
                into.comesOften(name, 1, hour, 1);
            }
        }

        private void readEvery(int start) {
            int gap = readNumber(1, MOST_GAP);
            expect("from");
            int hour = readNumber(0, LAST_HOUR);
            expect("times");
            int count = readNumber(1, MOST_IN_SERIES);
            int name = readName();
            if (fits(start, gap, hour, count)) {
                into.comesOften(name, gap, hour, count);
            }
        }

        private void readAfter(int start) {
            int name = readName();
            expect("in");
            int gap = readNumber(1, MOST_GAP);
            int other = readName();
            if (into.rules.count >= MOST_RULES) {
                fail(start, TOO_MUCH);
            }
            if (fault == 0) {
                into.rules.add(name, other, gap);
            }
        }

        private boolean fits(int start, int gap, int hour, int count) {
            if (!into.hasRoomFor(gap, hour, count)) {
                fail(start, TOO_MUCH);
            }
            return fault == 0;
        }

        /** A number from least to most; least, if there is a fault. */
        private int readNumber(int least, int most) {
            skipBlanks();
            int start = at;
            long number = 0;
            for (; at < tape.length && isDigit(tape.at(at)); at++) {
                // More digits can't make a number right that is above the last hour.
                if (number <= LAST_HOUR) {
                    number = 10 * number + tape.at(at) - '0';
                }
            }
            if (at == start) {
                fail(start, CANNOT_STAND);
            } else if (number < least || number > most) {
                fail(start, NOT_AS_TOLD);
            }
            return fault == 0 ? (int) number : least;
        }

        /** The number of a name; 0, if there is a fault. */
        private int readName() {
            skipBlanks();
            int start = at;
            int word = 0;
            for (; at < start + MOST_LETTERS && isLetter(tape.at(at)); at++) {
                word = withLetter(word, tape.at(at));
            }
            if (at == start) {
                fail(start, CANNOT_STAND);
            } else if (isLetter(tape.at(at))) {
                fail(at, NOT_AS_TOLD);
            }
            if (fault != 0) {
                return 0;
            }
            int name = into.names.findOrAdd(word);
            if (name == NONE) {
                fail(start, TOO_MANY_NAMES);
                return 0;
            }
            return name;
        }

        private void expect(String word) {
            skipBlanks();
            if (!passes(word)) {
                fail(at, CANNOT_STAND);
            }
        }

        /** Whether just this word stands here; if so, it is read. */
        private boolean passes(String word) {
            for (int k = 0; k < word.length(); k++) {
                if (tape.at(at + k) != word.charAt(k)) {
                    return false;
                }
            }
            if (isLetter(tape.at(at + word.length()))) {
                return false;
            }
            at += word.length();
            return true;
        }

        private void skipBlanks() {
            while (at < tape.length && tape.at(at) == ' ') {
                at++;
            }
        }

        private void fail(int place, int kind) {
            if (fault == 0) {
                fault = 8 * place + kind;
            }
        }
    }

    /** Writes a calendar as a text, of which it holds but the one byte that is asked for. */
    private static final class Teller {
        private int wanted;
        private int length;
        private int found;

        /** The k-th byte; how many there are, for NONE. */
        int byteAt(Calendar calendar, int k) {
            wanted = k;
            length = 0;
            found = REFUSED;
            write(calendar);
            return k == NONE ? length : found;
        }

        private void write(Calendar calendar) {
            putText("rows ");
            putNumber(calendar.rows);
            putText(";wide ");
            putNumber(calendar.width);
            Names names = calendar.names;
            for (int k = 0; k < calendar.things.count; k++) {
                putText(";at ");
                putNumber(calendar.things.hours[k]);
                putText(" ");
                putName(names, calendar.things.names[k]);
            }
            for (int rule = 0; rule < calendar.rules.count; rule++) {
                putText(";after ");
                putName(names, calendar.rules.names[rule]);
                putText(" in ");
                putNumber(calendar.rules.gaps[rule]);
                putText(" ");
                putName(names, calendar.rules.others[rule]);
            }
        }

        private void putText(String text) {
            for (int k = 0; k < text.length(); k++) {
                put(text.charAt(k));
            }
        }

        private void putNumber(int number) {
            for (int power = 1000000000; power >= 1; power /= 10) {
                if (number >= power || power == 1) {
                    put('0' + number / power % 10);
                }
            }
        }

        private void putName(Names names, int name) {
            if (!names.has(name)) {
                return;
            }
            int word = names.words[name];
            int letters = lettersIn(word);
            for (int k = 0; k < letters; k++) {
                put(letterAt(word, k));
            }
        }

        private void put(int sign) {
            if (length == wanted) {
                found = sign;
            }
            length++;
        }
    }

    /**
     * The ways of rules from name to name. The price of a way is its hours, times a scale, and its rules:
     * so the least price has the fewest hours and, among these, the fewest rules.
     */
    private static final class Ways {
        // A way of least price goes by no rule twice: it has 12 rules at most.
        private static final int SCALE = 32;
        private static final int FAR = 2000000000;

        // By name the price from there to the goal, where a way may have no rule at all.
        private final int[] prices = new int[MOST_NAMES];

        /** The fewest hours by which a name brings another one. */
        int hoursOf(Rules rules, int name, int other) {
            int price = find(rules, name, other);
            return price == FAR ? REFUSED : price / SCALE;
        }

        /** The k-th rule of the best way; how many there are, for NONE. */
        int ruleAt(Rules rules, int name, int other, int k) {
            int left = find(rules, name, other);
            if (left == FAR) {
                return REFUSED;
            }
            int length = left % SCALE;
            if (k == NONE) {
                return length;
            }
            if (k >= length) {
                return REFUSED;
            }
            int from = name;
            int rule = NONE;
            for (int step = 0; step <= k; step++) {
                rule = ruleOfPrice(rules, from, left);
                if (!rules.has(rule)) {
                    return REFUSED;
                }
                from = rules.others[rule];
                left -= priceOf(rules, rule);
            }
            return rule;
        }

        /** The least price of a way of one rule at least; FAR, if there is none. */
        private int find(Rules rules, int name, int other) {
            for (int k = 0; k < MOST_NAMES; k++) {
                prices[k] = k == other ? 0 : FAR;
            }
            for (int round = 0; round < MOST_RULES; round++) {
                for (int rule = 0; rule < rules.count; rule++) {
                    lower(rules.names[rule], priceBy(rules, rule));
                }
            }
            int least = FAR;
            for (int rule = 0; rule < rules.count; rule++) {
                if (rules.names[rule] == name) {
                    least = Math.min(least, priceBy(rules, rule));
                }
            }
            return least;
        }

        /** The price of the best way to the goal that goes by a rule first; FAR, if there is none. */
        private int priceBy(Rules rules, int rule) {
            int from = rules.others[rule];
            boolean isFar = from < 0 || from >= MOST_NAMES || prices[from] == FAR;
            return isFar ? FAR : prices[from] + priceOf(rules, rule);
        }

        private void lower(int name, int price) {
            if (name >= 0 && name < MOST_NAMES) {
                prices[name] = Math.min(prices[name], price);
            }
        }

        private int priceOf(Rules rules, int rule) {
            return rules.gaps[rule] * SCALE + 1;
        }

        private int ruleOfPrice(Rules rules, int name, int price) {
            for (int rule = 0; rule < rules.count; rule++) {
                if (rules.names[rule] == name && priceBy(rules, rule) == price) {
                    return rule;
                }
            }
            return NONE;
        }
    }

    /** The calendars as they were ahead of the last acts. */
    private static final class History {
        int count;
        private int following;
        private final Calendar[] states = new Calendar[MOST_UNDONE];

        History() {
            for (int k = 0; k < MOST_UNDONE; k++) {
                states[k] = new Calendar();
            }
        }

        void remember(Calendar calendar) {
            states[following].copyFrom(calendar);
            following = (following + 1) % MOST_UNDONE;
            count = Math.min(count + 1, MOST_UNDONE);
        }

        void bringBack(Calendar into) {
            if (count < 1) {
                return;
            }
            following = (following + MOST_UNDONE - 1) % MOST_UNDONE;
            into.copyFrom(states[following]);
            count--;
        }

        void forget() {
            count = 0;
        }
    }
}
