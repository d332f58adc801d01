import java.util.NoSuchElementException;

/** Promises 5 to 18: what is asked of points, triangles, edges, circles, hulls and trees. */
public final class QuestionTests {
    private static final String SQUARE = "plane;at 0 0 4 0 4 4 0 4;";
    /** A rhombus whose due edge is 2, 3; flipped, 0, 1 is bad. */
    private static final String RHOMBUS = "plane;at 0 5 20 5 10 0 10 10;";
    /** A square, a triangle in it, and a point in that. */
    private static final String NEST = "plane;at 4 4 3 3 6 3 4 6 10 10 0 10 0 0 10 0;";
    private static final String LINE = "plane;at 2 2 0 0 3 3;";

    public static void main(String[] args) {
        state();
        stateWrong();
        point();
        triangle();
        circle();
        why();
        badEdge();
        at();
        hit();
        corner();
        lift();
        tree();
        centre();
        roundness();
        share();
        Check.close("QuestionTests");
    }

    // Promise 5
    private static void state() {
        Check.same("5: square", Told.states(Check.loaded(SQUARE)), "4 2 5 4 0 2 0 4 1 1 0 0");
        CircleFlips rhombus = Check.loaded(RHOMBUS);
        Check.same("5: rhombus", Told.states(rhombus), "4 2 5 4 0 2 0 4 1 1 0 0");
        rhombus.flip(2, 3);
        Check.same("5: rhombus, flipped", Told.states(rhombus), "4 2 5 4 1 2 1 4 1 2 1 0");
        rhombus.put(11, 5);
        Check.same("5: rhombus, put", Told.states(rhombus), "5 4 8 4 0 4 0 4 2 3 1 1");
        rhombus.take(4);
        rhombus.undo();
        Check.same("5: puts stay counted", rhombus.state(11), 1);
        Check.same("5: nest", Told.states(Check.loaded(NEST)), "8 10 17 4 0 10 0 4 3 1 0 0");
        Check.same("5: line", Told.states(Check.loaded(LINE)), "3 0 0 0 0 0 0 2 2 1 0 0");
        Check.same("5: one point", Told.states(Check.loaded("plane;at 9 9;")), "1 0 0 0 0 0 0 1 1 1 0 0");
        Check.same("5: two points", Told.states(Check.loaded("plane;at 9 9 1 1;")), "2 0 0 0 0 0 0 2 1 1 0 0");
    }

    private static void stateWrong() {
        CircleFlips flips = Check.loaded(SQUARE);
        for (int what : new int[] {-1, 12, Integer.MIN_VALUE, Integer.MAX_VALUE}) {
            Check.illegal("5: state(" + what + ")", flips, () -> flips.state(what));
        }
    }

    // Promise 6
    private static void point() {
        CircleFlips nest = Check.loaded(NEST);
        Check.same("6: x", Told.points(nest, 0), "4 3 6 4 10 0 0 10");
        Check.same("6: y", Told.points(nest, 1), "4 3 3 6 10 10 0 0");
        Check.same("6: layers", Told.points(nest, 4), "2 1 1 1 0 0 0 0");
        Check.same("6: nearest", Told.points(nest, 6), "1 0 0 0 3 3 1 2");
        CircleFlips rhombus = Check.loaded(RHOMBUS);
        rhombus.flip(3, 2);
        Check.same("6: edges", Told.points(rhombus, 2), "3 3 2 2");
        Check.same("6: due edges", Told.points(rhombus, 3), "2 2 3 3");
        Check.same("6: joined", Told.points(rhombus, 5), "14 13 3 3");
        Check.same("6: nearest, the smallest index of several", Told.points(rhombus, 6), "2 2 3 2");
        CircleFlips line = Check.loaded(LINE);
        Check.same("6: a point on a line between is no corner", Told.points(line, 4), "1 0 0");
        Check.same("6: nothing joined on a line", Told.points(line, 5), "0 0 0");
        Check.same("6: a lone point", Check.loaded("plane;at 9 9;").point(0, 6), -1);
        for (int p : new int[] {-1, 8, Integer.MIN_VALUE, Integer.MAX_VALUE}) {
            Check.outside("6: point(" + p + ", 0)", nest, () -> nest.point(p, 0));
            Check.outside("6: point(" + p + ", 7)", nest, () -> nest.point(p, 7));
        }
        Check.illegal("6: point(0, -1)", nest, () -> nest.point(0, -1));
        Check.illegal("6: point(0, 7)", nest, () -> nest.point(0, 7));
    }

    // Promise 7, and the due triangles
    private static void triangle() {
        Check.same("7: square", Told.triangles(Check.loaded(SQUARE), true), "0 1 2, 0 2 3");
        CircleFlips circle = Check.loaded("plane;at 0 5 10 5 5 0 5 10 2 1 8 9 2 9 8 1;");
        Check.same("7: of a circle the smallest index is joined with all",
                Told.triangles(circle, true), "0 1 5, 0 1 7, 0 2 4, 0 2 7, 0 3 5, 0 3 6");
        Check.same("7: others on the circle", circle.triangle(0, true, 5), 5);
        CircleFlips rhombus = Check.loaded(RHOMBUS);
        Check.same("7: rhombus", Told.triangles(rhombus, true), "0 2 3, 1 2 3");
        rhombus.flip(2, 3);
        Check.same("7: rhombus, flipped", Told.triangles(rhombus, false), "0 1 2, 0 1 3");
        Check.same("7: its due ones stay", Told.triangles(rhombus, true), "0 2 3, 1 2 3");
        Check.same("7: turn without sign", Check.row(rhombus.triangle(0, false, 3), rhombus.triangle(1, false, 3)), "100 100");
        Check.same("7: within the circle", Check.row(rhombus.triangle(0, false, 4), rhombus.triangle(0, true, 4)), "1 0");
        CircleFlips first = Check.loaded("plane;at 10 4 0 5 20 5 10 0 10 11;flip 0 4;");
        Check.same("7: within the circle, the point 0", Check.row(first.triangle(3, false, 2), first.triangle(3, false, 4)), "4 2");
        Check.same("7: on the circle", Check.row(rhombus.triangle(0, false, 5), Check.loaded(SQUARE).triangle(1, true, 5)), "0 1");
        CircleFlips nest = Check.loaded(NEST);
        Check.same("7: nest", Told.triangles(nest, false),
                "0 1 2, 0 1 3, 0 2 3, 1 2 6, 1 3 5, 1 5 6, 2 3 4, 2 4 7, 2 6 7, 3 4 5");
        Check.same("7: beside", Check.row(nest.triangle(0, true, 6), nest.triangle(7, true, 6)), "3 2");
        for (int t : new int[] {-1, 10, Integer.MIN_VALUE, Integer.MAX_VALUE}) {
            Check.outside("7: triangle(" + t + ", true, 0)", nest, () -> nest.triangle(t, true, 0));
            Check.outside("7: triangle(" + t + ", false, 9)", nest, () -> nest.triangle(t, false, 9));
        }
        Check.illegal("7: triangle(0, true, -1)", nest, () -> nest.triangle(0, true, -1));
        Check.illegal("7: triangle(0, false, 7)", nest, () -> nest.triangle(0, false, 7));
    }

    // Promise 8
    private static void circle() {
        CircleFlips flips = Check.loaded("plane;at 0 0 4 0 4 4 0 4 1 1 9 9 2 2;");
        Check.same("8: on", flips.circle(0, 1, 2, 3), 0);
        Check.same("8: on, turned", flips.circle(2, 1, 0, 3), 0);
        Check.same("8: within", flips.circle(0, 1, 2, 4), 1);
        Check.same("8: within, turned", flips.circle(0, 2, 1, 4), 1);
        Check.same("8: outside", flips.circle(0, 1, 2, 5), -1);
        Check.same("8: outside, turned", flips.circle(2, 1, 0, 5), -1);
        Check.same("8: one of the three", flips.circle(0, 1, 2, 1), 0);
        Check.same("8: on a line", flips.circle(0, 4, 5, 1), 2);
        Check.same("8: not three", flips.circle(0, 1, 0, 2), 2);
        Check.outside("8: p", flips, () -> flips.circle(-1, 1, 2, 3));
        Check.outside("8: q", flips, () -> flips.circle(0, 7, 2, 3));
        Check.outside("8: r", flips, () -> flips.circle(0, 1, Integer.MAX_VALUE, 3));
        Check.outside("8: s, also on a line", flips, () -> flips.circle(0, 0, 0, 7));
    }

    // Promise 9
    private static void why() {
        CircleFlips square = Check.loaded(SQUARE);
        Check.same("9: inner", Check.row(square.why(0, 2), square.why(2, 0)), "0 0");
        Check.same("9: border", Check.row(square.why(0, 1), square.why(3, 0)), "2 2");
        Check.same("9: no edge", square.why(1, 3), 1);
        Check.same("9: one point", square.why(2, 2), 1);
        CircleFlips bent = Check.loaded("plane;at 0 0 8 0 2 2 0 8;");
        Check.same("9: a bend inwards", bent.why(0, 2), 3);
        CircleFlips onLine = Check.loaded("plane;at 0 0 8 0 2 0 2 4;");
        Check.same("9: a line", onLine.why(2, 3), 3);
        Check.same("9: a point on a line, at the other end", Check.loaded("plane;at 2 4 8 0 2 0 0 0;").why(0, 2), 3);
        Check.outside("9: why(-1, 0)", square, () -> square.why(-1, 0));
        Check.outside("9: why(0, 4)", square, () -> square.why(0, 4));
        Check.outside("9: why of a new object", new CircleFlips(), () -> new CircleFlips().why(0, 0));
    }

    // Promise 10
    private static void badEdge() {
        CircleFlips square = Check.loaded(SQUARE);
        square.flip(0, 2);
        Check.thrown("10: on the circle is not bad", square, NoSuchElementException.class, square::badEdge);
        CircleFlips rhombus = Check.loaded(RHOMBUS);
        Check.thrown("10: none", rhombus, NoSuchElementException.class, rhombus::badEdge);
        rhombus.flip(2, 3);
        Check.same("10: 0, 1", rhombus.badEdge(), 1);
        CircleFlips two = Check.loaded("plane;at 10 10 10 0 0 5 20 5 30 0 30 10 40 5;flip 0 1;flip 4 5;");
        Check.same("10: two bad edges", two.state(4), 2);
        Check.same("10: the smaller one", two.badEdge(), 203);
        two.mend(1);
        Check.same("10: the other one", two.badEdge(), 306);
    }

    // Promise 11
    private static void at() {
        CircleFlips flips = Check.loaded(SQUARE);
        Check.same("11: in the first", flips.at(3, 1), 0);
        Check.same("11: in the second", flips.at(1, 3), 1);
        Check.same("11: on the common edge, the smallest", flips.at(2, 2), 0);
        Check.same("11: on the border", flips.at(0, 2), 1);
        Check.same("11: at a corner", flips.at(0, 4), 1);
        Check.same("11: outside", Check.row(flips.at(5, 2), flips.at(-1, 0), flips.at(-4, -4)), "-1 -1 -1");
        flips.flip(0, 2);
        Check.same("11: of the drawing", flips.at(3, 3), 1);
        sweep("plane;at 2 1 9 3 4 8;");
        sweep("plane;at 2 1 4 8 9 3;");
        sweep("plane;at 0 0 9 0 0 9;");
        sweep("plane;at 0 0 0 9 9 0;");
        wrongPlaces("11: at", flips, flips::at);
    }

    /** All places in and round one triangle, also those on its edges. */
    private static void sweep(String text) {
        CircleFlips flips = Check.loaded(text);
        int[][] corners = new int[3][2];
        for (int p = 0; p < 3; p++) {
            corners[p] = new int[] {flips.point(p, 0), flips.point(p, 1)};
        }
        for (int x = -2; x < 12; x++) {
            for (int y = -2; y < 12; y++) {
                boolean isInside = Model.isInside(corners[0], corners[1], corners[2], new int[] {x, y});
                Check.same("11: at(" + x + ", " + y + ") of " + text, flips.at(x, y), isInside ? 0 : -1);
            }
        }
    }

    private interface Asked {
        int of(int x, int y);
    }

    private static void wrongPlaces(String name, CircleFlips flips, Asked asked) {
        for (int wrong : new int[] {-1001, 1001, Integer.MIN_VALUE, Integer.MAX_VALUE}) {
            Check.illegal(name + "(" + wrong + ", 0)", flips, () -> asked.of(wrong, 0));
            Check.illegal(name + "(0, " + wrong + ")", flips, () -> asked.of(0, wrong));
        }
        Check.same(name + "(-1000, 1000)", asked.of(-1000, 1000) <= 0, true);
        Check.same(name + "(1000, -1000)", asked.of(1000, -1000) <= 0, true);
    }

    // Promise 12
    private static void hit() {
        CircleFlips flips = Check.loaded(SQUARE);
        Check.same("12: within both", flips.hit(2, 2), 2);
        Check.same("12: on both", Check.row(flips.hit(0, 0), flips.hit(4, 4)), "0 0");
        Check.same("12: on an edge", flips.hit(2, 0), 2);
        CircleFlips rhombus = Check.loaded(RHOMBUS);
        rhombus.flip(2, 3);
        Check.same("12: of the due ones", Check.row(rhombus.hit(1, 5), rhombus.hit(10, 5), rhombus.hit(19, 5)), "1 2 1");
        CircleFlips wide = Check.loaded("plane;at 0 0 200 1 100 1;");
        Check.same("12: a wide circle", Check.row(wide.hit(100, -1000), wide.hit(100, 1000), wide.hit(150, 2)), "1 0 0");
        wrongPlaces("12: hit", flips, flips::hit);
    }

    // Promise 13
    private static void corner() {
        CircleFlips nest = Check.loaded(NEST);
        Check.same("13: to the left", Check.row(nest.corner(0), nest.corner(1), nest.corner(2), nest.corner(3)), "4 5 6 7");
        CircleFlips line = Check.loaded(LINE);
        Check.same("13: a line", Check.row(line.corner(0), line.corner(1)), "1 2");
        Check.thrown("13: no third one", line, NoSuchElementException.class, () -> line.corner(2));
        CircleFlips onBorder = Check.loaded("plane;at 5 0 10 0 0 0 5 5;");
        CircleFlips upright = Check.loaded("plane;at 0 5 0 9 0 0 0 2 7 9 7 0 7 4;");
        Check.same("13: none between others, upright",
                Check.row(upright.corner(0), upright.corner(1), upright.corner(2), upright.corner(3)), "1 2 5 4");
        Check.same("13: layers of it", Told.points(upright, 4), "1 0 0 1 0 0 1");
        Check.same("13: none between others", Check.row(onBorder.corner(0), onBorder.corner(1), onBorder.corner(2)), "1 3 2");
        CircleFlips none = new CircleFlips();
        for (int place : new int[] {-1, 4, Integer.MIN_VALUE, Integer.MAX_VALUE}) {
            Check.thrown("13: corner(" + place + ")", nest, NoSuchElementException.class, () -> nest.corner(place));
        }
        Check.thrown("13: no points", none, NoSuchElementException.class, () -> none.corner(0));
        Check.same("13: one point", Check.loaded("plane;at 3 3;").corner(0), 0);
    }

    // Promise 14
    private static void lift() {
        CircleFlips flips = Check.loaded(RHOMBUS);
        Check.same("14: rhombus", flips.lift(), 105000L);
        flips.flip(2, 3);
        Check.same("14: flipped", flips.lift(), 120000L);
        flips.mend(1);
        Check.same("14: less by the flip of a bad edge", flips.lift(), 105000L);
        Check.same("14: square", Check.loaded(SQUARE).lift(), 1536L);
        Check.same("14: a large one", Check.loaded("plane;at 0 0 200 0 200 200 0 200;").lift(), 9600000000L);
        Check.same("14: none", new CircleFlips().lift(), 0L);
    }

    // Promise 15
    private static void tree() {
        Check.same("15: square", Check.loaded(SQUARE).tree(), 48L);
        Check.same("15: line", Check.loaded(LINE).tree(), 10L);
        Check.same("15: two", Check.loaded("plane;at 0 0 200 200;").tree(), 80000L);
        Check.same("15: one, none", Check.loaded("plane;at 9 9;").tree() + new CircleFlips().tree(), 0L);
        Check.same("15: two groups", Check.loaded("plane;at 0 0 100 0 0 1 101 0 1 1 101 1;").tree(), 9806L);
    }

    // Promise 16
    private static void centre() {
        CircleFlips square = Check.loaded(SQUARE);
        Check.same("16: square", square.centre(0, true) + " " + square.centre(1, false), "2.0 2.0");
        CircleFlips flips = Check.loaded("plane;at 0 0 0 3 7 1;");
        Check.same("16: x, turned to the right", flips.centre(0, true), 141.0 / 42.0);
        Check.same("16: y", flips.centre(0, false), 1.5);
        CircleFlips odd = Check.loaded("plane;at 1 2 8 3 4 9;");
        Check.same("16: x, turned to the left", odd.centre(0, true), 384.0 / 92.0);
        Check.same("16: y", odd.centre(0, false), 440.0 / 92.0);
        square.flip(0, 2);
        Check.same("16: of the due ones, not the drawing", square.centre(1, true), 2.0);
        for (int t : new int[] {-1, 2, Integer.MIN_VALUE, Integer.MAX_VALUE}) {
            Check.outside("16: centre(" + t + ", true)", square, () -> square.centre(t, true));
            Check.outside("16: centre(" + t + ", false)", square, () -> square.centre(t, false));
        }
    }

    // Promise 17
    private static void roundness() {
        CircleFlips square = Check.loaded(SQUARE);
        Check.same("17: square", square.roundness(0), 1048576000);
        CircleFlips thin = Check.loaded("plane;at 0 0 200 199 199 198;");
        Check.same("17: thin", thin.roundness(0), Float.floatToIntBits((float) 1 / (float) (79601 + 78805 + 2)));
        CircleFlips rhombus = Check.loaded(RHOMBUS);
        Check.same("17: a third", rhombus.roundness(0), Float.floatToIntBits((float) 100 / (float) 350));
        rhombus.flip(2, 3);
        Check.same("17: of the drawing", rhombus.roundness(0), Float.floatToIntBits((float) 100 / (float) 650));
        for (int t : new int[] {-1, 2, Integer.MIN_VALUE, Integer.MAX_VALUE}) {
            Check.outside("17: roundness(" + t + ")", square, () -> square.roundness(t));
        }
    }

    // Promise 18
    private static void share() {
        Check.same("18: square", Check.loaded(SQUARE).share(), 1.25f);
        Check.same("18: nest", Check.loaded(NEST).share(), 2.125f);
        Check.same("18: triangle", Check.loaded("plane;at 0 0 1 0 0 1;").share(), 1.0f);
        Check.same("18: a third", Check.loaded("plane;at 0 0 2 0 0 2 2 2 1 1 4 1;").share(), (float) 10 / (float) 6);
        Check.same("18: line", Check.loaded(LINE).share(), 0.0f);
        Check.same("18: none", new CircleFlips().share(), 0.0f);
    }
}
