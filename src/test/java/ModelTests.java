import java.util.function.Supplier;

/** Runs of calls, made up by a fixed rule, on the program and on the model: all answers must be the same. */
public final class ModelTests {
    private static int checked = 0;
    private static int wrong = 0;

    private CircleFlips program = new CircleFlips();
    private Model model = new Model();
    private int calls;
    private final int run;
    private long seed;
    private int width = 200;

    private ModelTests(int run) {
        this.run = run;
        seed = 1000003L * run + 17;
    }

    /** A number from 0 to below a bound, by a fixed rule. */
    private int some(int bound) {
        seed = seed * 6364136223846793005L + 1442695040888963407L;
        return (int) Math.floorMod(seed >>> 33, (long) bound);
    }

    private static String answer(Supplier<Object> call) {
        try {
            return String.valueOf(call.get());
        } catch (RuntimeException e) {
            return "throws." + e.getClass().getSimpleName();
        }
    }

    private String same(String call, Supplier<Object> got, Supplier<Object> due) {
        calls++;
        checked++;
        String gotten = answer(got);
        String wanted = answer(due);
        if (!gotten.equals(wanted)) {
            wrong++;
            if (wrong <= 20) {
                System.out.println("model run " + run + ": " + call + " answered " + gotten + ", due is " + wanted);
            }
        }
        return gotten;
    }

    // ---- one question each

    private void askState(int what) {
        same("state(" + what + ")", () -> program.state(what), () -> model.state(what));
    }

    private void askPoint(int p, int what) {
        same("point(" + p + ", " + what + ")", () -> program.point(p, what), () -> model.point(p, what));
    }

    private void askTriangle(int t, boolean isDue, int what) {
        same("triangle(" + t + ", " + isDue + ", " + what + ")",
                () -> program.triangle(t, isDue, what), () -> model.triangle(t, isDue, what));
    }

    private void askOfPoints() {
        int p = somePoint();
        int q = somePoint();
        int r = somePoint();
        int s = somePoint();
        same("circle(" + p + ", " + q + ", " + r + ", " + s + ")",
                () -> program.circle(p, q, r, s), () -> model.circle(p, q, r, s));
        same("why(" + p + ", " + q + ")", () -> program.why(p, q), () -> model.why(p, q));
        askPoint(p, some(9) - 1);
    }

    private void askOfPlaces() {
        int far = some(8) == 0 ? 1002 : width + 3;
        int x = some(2 * far + 1) - far;
        int y = some(2 * far + 1) - far;
        same("at(" + x + ", " + y + ")", () -> program.at(x, y), () -> model.at(x, y));
        same("hit(" + x + ", " + y + ")", () -> program.hit(x, y), () -> model.hit(x, y));
        int insideX = some(width + 1);
        int insideY = some(width + 1);
        same("at(" + insideX + ", " + insideY + ")",
                () -> program.at(insideX, insideY), () -> model.at(insideX, insideY));
        same("hit(" + insideX + ", " + insideY + ")",
                () -> program.hit(insideX, insideY), () -> model.hit(insideX, insideY));
    }

    private void askOfTriangles() {
        int t = some(model.now.drawing.size() + 3) - 1;
        askTriangle(t, some(2) == 0, some(9) - 1);
        same("centre(" + t + ", true)", () -> program.centre(t, true), () -> model.centre(t, true));
        same("centre(" + t + ", false)", () -> program.centre(t, false), () -> model.centre(t, false));
        same("roundness(" + t + ")", () -> program.roundness(t), () -> model.roundness(t));
    }

    private void askOfAll() {
        askState(some(14) - 1);
        int place = some(model.count() + 3) - 1;
        same("corner(" + place + ")", () -> program.corner(place), () -> model.corner(place));
        same("badEdge()", () -> program.badEdge(), () -> model.badEdge());
        same("lift()", () -> program.lift(), () -> model.lift());
        same("tree()", () -> program.tree(), () -> model.tree());
        same("share()", () -> program.share(), () -> model.share());
        same("errorOffset()", () -> program.errorOffset(), () -> model.errorOffset);
        askState(9);
        same("checksum()", () -> program.checksum(), () -> model.checksum());
    }

    // ---- changes

    private int somePoint() {
        return some(25) == 0 ? some(24) - 2 : some(Math.max(1, model.count()));
    }

    private int someCoordinate() {
        return some(30) == 0 ? some(2) * 202 - 1 : some(width + 1);
    }

    private void change() {
        int x = someCoordinate();
        int y = someCoordinate();
        int p = somePoint();
        int q = somePoint();
        int kind = some(20);
        if (kind < 6) {
            same("put(" + x + ", " + y + ")", () -> program.put(x, y), () -> model.put(x, y));
        } else if (kind == 6) {
            same("take(" + p + ")", () -> program.take(p), () -> model.take(p));
        } else if (kind < 9) {
            same("move(" + p + ", " + x + ", " + y + ")", () -> program.move(p, x, y), () -> model.move(p, x, y));
        } else if (kind < 15) {
            same("flip(" + p + ", " + q + ")", () -> program.flip(p, q), () -> model.flip(p, q));
            flipSome();
        } else if (kind < 17) {
            int most = some(3) == 0 ? some(502) : 1 + some(4);
            same("mend(" + most + ")", () -> program.mend(most), () -> model.mend(most));
        } else {
            same("undo()", () -> program.undo(), () -> model.undo());
        }
    }

    private void flipSome() {
        for (int edge : Model.edges(model.now.drawing)) {
            if (calls < 400 && some(6) == 0 && model.why(edge / 100, edge % 100) == 0) {
                same("flip(" + edge % 100 + ", " + edge / 100 + ")",
                        () -> program.flip(edge % 100, edge / 100), () -> model.flip(edge % 100, edge / 100));
            }
        }
    }

    // ---- texts

    private String someText() {
        StringBuilder text = new StringBuilder("plane;");
        Model draft = new Model();
        int places = some(4) == 0 ? some(30) : some(14);
        for (int i = 0; i < places; i++) {
            int x = some(width + 1);
            int y = some(width + 1);
            boolean isFree = !draft.isTaken(x, y) && draft.count() < 20;
            if (isFree || some(draft.count() < 20 ? 12 : 2) == 0) {
                boolean isFirst = text.charAt(text.length() - 1) == ';';
                text.append(isFirst ? "at " : " ").append(x).append(' ').append(y);
                text.append(some(4) == 0 ? ";" : "");
            }
            if (isFree) {
                draft.readPlace(x, y);
            }
        }
        text.append(text.charAt(text.length() - 1) == ';' ? "" : ";");
        for (int i = some(6); i > 0 && draft.count() > 2; i--) {
            int p = some(draft.count());
            int q = some(draft.count());
            if (draft.why(p, q) == 0) {
                draft.readFlip(p, q);
                text.append("flip ").append(p).append(' ').append(q).append(';');
            }
        }
        return text.toString();
    }

    private String bent(String text) {
        String[] pieces = {" ", "  ", "0", "00", "9", "1", ";", "at", "flip", "plane", "a", "A", "\u00e9", "\0",
            "201", "200", "19", "flip 0 1;", "at 1 1;", "4294967296", "-", "\t"};
        StringBuilder bent = new StringBuilder(text);
        for (int i = some(3); i >= 0; i--) {
            int place = some(bent.length() + 1);
            int kind = some(3);
            if (kind == 0) {
                bent.insert(place, pieces[some(pieces.length)]);
            } else if (kind == 1) {
                bent.delete(place, Math.min(bent.length(), place + 1 + some(3)));
            } else {
                bent.insert(Math.min(bent.length(), bent.indexOf(";") + 1 + some(2)), pieces[some(pieces.length)]);
            }
        }
        return bent.toString();
    }

    private void load() {
        String text = someText();
        text = some(2) == 0 ? bent(text) : text;
        text = text.length() > 400 ? text.substring(0, 400) : text;
        for (int i = 0; i < text.length(); i += 20) {
            int[] words = words(text, i);
            same("append(..)", () -> program.append(words[0], words[1], words[2], words[3], words[4]),
                    () -> model.append(words));
        }
        int length = some(15) == 0 ? some(410) - 4 : text.length();
        same("load(" + length + ") of " + text, () -> program.load(length), () -> model.load(length));
        same("errorOffset() of " + text, () -> program.errorOffset(), () -> model.errorOffset);
    }

    static int[] words(String text, int from) {
        int[] words = new int[5];
        for (int i = 0; i < 20; i++) {
            int sign = from + i < text.length() ? text.charAt(from + i) : 0;
            words[i / 4] |= sign << 24 - i % 4 * 8;
        }
        return words;
    }

    // ---- runs

    private void go() {
        int[] widths = {2, 3, 4, 5, 8, 12, 30, 200};
        width = widths[run % widths.length];
        if (run % 3 != 0) {
            load();
        }
        while (calls < 480) {
            int kind = some(10);
            if (kind < 5) {
                change();
            } else if (kind == 5 && some(3) == 0) {
                load();
            } else if (kind == 6) {
                askOfPoints();
            } else if (kind == 7) {
                askOfPlaces();
            } else if (kind == 8) {
                askOfTriangles();
            } else {
                askOfAll();
            }
        }
    }

    private void goTexts() {
        int[] widths = {3, 9, 200};
        width = widths[run % widths.length];
        while (calls < 450) {
            load();
        }
        askOfAll();
    }

    public static void main(String[] args) {
        int runs = args.length > 0 ? Integer.parseInt(args[0]) : 160;
        for (int run = 0; run < runs; run++) {
            new ModelTests(run).go();
            new ModelTests(run).goTexts();
        }
        System.out.println(checked + " answers compared with the model, " + wrong + " wrong");
        if (wrong != 0) {
            System.exit(1);
        }
    }
}
