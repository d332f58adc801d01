import java.util.ArrayList;
import java.util.List;
import java.util.regex.Matcher;
import java.util.regex.Pattern;

/** Reads a setup text for the model: the tokens first, all of them, then the statements. */
final class ModelReader {
    private static final Pattern TOKEN = Pattern.compile(" *([a-z]+|[0-9]+|[^ ])", Pattern.DOTALL);

    private final Model model;
    private final List<String> tokens = new ArrayList<>();
    private final List<Integer> offsets = new ArrayList<>();
    private int next;

    /** Goes up to where the error is found. */
    private static final class Found extends RuntimeException {
        private static final long serialVersionUID = 1;
        final int code;
        final int offset;

        Found(int code, int offset) {
            this.code = code;
            this.offset = offset;
        }
    }

    ModelReader(Model model) {
        this.model = model;
    }

    /** The code and the offset of the first error; 0 and -1 if there is none. */
    int[] read(String text) {
        Matcher matcher = TOKEN.matcher(text);
        while (matcher.find()) {
            tokens.add(matcher.group(1));
            offsets.add(matcher.start(1));
        }
        tokens.add("");
        offsets.add(text.length());
        try {
            setup();
            return new int[] {0, -1};
        } catch (Found found) {
            return new int[] {found.code, found.offset};
        }
    }

    private Found error(int code) {
        return new Found(code, offsets.get(next));
    }

    private String token() {
        return tokens.get(next);
    }

    private void word(String wanted) {
        if (!token().equals(wanted)) {
            throw error(-2);
        }
        next++;
    }

    private boolean isNumber() {
        return token().matches("[0-9]+");
    }

    private int number(int count) {
        if (!isNumber()) {
            throw error(-2);
        }
        String digits = token().replaceFirst("^0+(?=.)", "");
        if (digits.length() > 3 || Integer.parseInt(digits) >= count) {
            throw error(-3);
        }
        return Integer.parseInt(digits);
    }

    private void setup() {
        word("plane");
        word(";");
        while (token().equals("at")) {
            next++;
            do {
                place();
            } while (isNumber());
            word(";");
        }
        while (token().equals("flip")) {
            next++;
            flip();
            word(";");
        }
        word("");
    }

    private void place() {
        int x = number(201);
        if (model.count() == 20) {
            throw error(-5);
        }
        next++;
        int y = number(201);
        if (model.isTaken(x, y)) {
            throw error(-4);
        }
        next++;
        model.readPlace(x, y);
    }

    private void flip() {
        int p = number(model.count());
        next++;
        int q = number(model.count());
        if (model.why(p, q) != 0) {
            throw error(-6);
        }
        next++;
        model.readFlip(p, q);
    }
}
