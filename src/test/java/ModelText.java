import java.util.regex.Matcher;
import java.util.regex.Pattern;

/** Model's reading of a text: it is cut into words, numbers and single bytes first. */
final class ModelText {
    private static final Pattern TOKEN = Pattern.compile(" *(?:([a-z]+)|([0-9]+)|([^ ])|$)", Pattern.DOTALL);

    private static final class Fault extends RuntimeException {
        private static final long serialVersionUID = 1L;
        final int code;

        Fault(int place, int kind) {
            code = 8 * place + kind;
        }
    }

    private final Matcher tokens;
    private final int length;
    private final Model.State told;

    ModelText(String text, Model.State told) {
        tokens = TOKEN.matcher(text);
        length = text.length();
        this.told = told;
        tokens.lookingAt();
    }

    int fault() {
        try {
            statement();
            while (place() < length) {
                if (!";".equals(tokens.group(3))) {
                    throw new Fault(place(), 1);
                }
                step();
                statement();
            }
            return 0;
        } catch (Fault fault) {
            return fault.code;
        }
    }

    /** Where the token that is to be read begins; the length of the text, if there is none. */
    private int place() {
        for (int group = 1; group <= 3; group++) {
            if (tokens.group(group) != null) {
                return tokens.start(group);
            }
        }
        return length;
    }

    private void step() {
        int end = tokens.end();
        tokens.region(end, length);
        tokens.lookingAt();
    }

    private void statement() {
        int start = place();
        String head = tokens.group(1) == null ? "" : tokens.group(1);
        switch (head) {
            case "rows" -> rows();
            case "wide" -> wide();
            case "at" -> at(start);
            case "every" -> every(start);
            case "after" -> after(start);
            default -> throw new Fault(start, 1);
        }
    }

    private void rows() {
        step();
        int start = place();
        int rows = number(0, 64);
        if (!java.util.List.of(2, 4, 8, 16, 32, 64).contains(rows)) {
            throw new Fault(start, 2);
        }
        if (rows != told.rows.size()) {
            told.lay(rows, told.width);
        }
    }

    private void wide() {
        step();
        int width = number(1, 99999999);
        if (width != told.width) {
            told.lay(told.rows.size(), width);
        }
    }

    private void at(int start) {
        step();
        int hour = number(0, 999999999);
        int name = name();
        come(start, name, 1, hour, 1);
    }

    private void every(int start) {
        step();
        int gap = number(1, 999999);
        word("from");
        int hour = number(0, 999999999);
        word("times");
        int count = number(1, 50);
        int name = name();
        come(start, name, gap, hour, count);
    }

    private void after(int start) {
        step();
        int name = name();
        word("in");
        int gap = number(1, 999999);
        int other = name();
        if (told.rules.size() == 12) {
            throw new Fault(start, 4);
        }
        told.rules.add(new Model.Rule(name, other, gap));
    }

    private void come(int start, int name, int gap, int hour, int count) {
        if (told.size() + count > 200 || hour + (count - 1L) * gap > 999999999) {
            throw new Fault(start, 4);
        }
        for (int k = 0; k < count; k++) {
            told.push(name, hour + k * gap);
        }
    }

    private int number(int least, int most) {
        String digits = tokens.group(2);
        if (digits == null) {
            throw new Fault(place(), 1);
        }
        java.math.BigInteger value = new java.math.BigInteger(digits);
        if (value.bitLength() > 31 || value.longValue() < least || value.longValue() > most) {
            throw new Fault(place(), 2);
        }
        step();
        return value.intValue();
    }

    private void word(String wanted) {
        if (!wanted.equals(tokens.group(1))) {
            throw new Fault(place(), 1);
        }
        step();
    }

    private int name() {
        String word = tokens.group(1);
        if (word == null) {
            throw new Fault(place(), 1);
        }
        if (word.length() > 6) {
            throw new Fault(place() + 6, 2);
        }
        if (!told.names.contains(word)) {
            if (told.names.size() == 16) {
                throw new Fault(place(), 3);
            }
            told.names.add(word);
        }
        step();
        return told.names.indexOf(word);
    }
}
