import java.math.BigInteger;
import java.util.NoSuchElementException;

/** Promises 5 to 18 at their boundaries: a function for each sentence of the document that names one. */
public final class QuestionBoundaryTests {
    private static final String SQUARE = "plane;at 0 0 4 0 4 4 0 4;";
    /** The due edge is 2, 3; flipped, 0, 1 is bad. */
    private static final String RHOMBUS = "plane;at 0 5 20 5 10 0 10 10;";
    /** On a circle round (20, 20), every seventh one next: its point 0 stands between 3 and 17. */
    private static final String RING_OF_TWENTY = "plane;at 2 19 26 3 35 30 3 14 30 5 30 35 5 10 35 10 26 37 10 5"
            + " 37 14 21 38 14 3 38 19 19 38 19 2 38 21 14 37 21 2 37 26;";
    private static final String LINE_OF_TWENTY = "plane;at 0 0 1 1 2 2 3 3 4 4 5 5 6 6 7 7 8 8 9 9 10 10 11 11 12 12 13 13"
            + " 14 14 15 15 16 16 17 17 18 18 19 19;";
    private static final String[] FLAT = {"plane;", "plane;at 5 5;", "plane;at 5 5 200 0;", "plane;at 3 3 0 0 1 1;",
        "plane;at 5 0 5 200 5 100 5 7;", "plane;at 0 9 200 9 7 9;", LINE_OF_TWENTY};
    private static final int[] NO_KIND = {-1, Integer.MIN_VALUE, Integer.MAX_VALUE, 100};

    public static void main(String[] args) {
        withoutTriangles();
        dueOnOneCircle();
        dueOfTwentyOnOneCircle();
        dueWithinAndOutside();
        dueOrder();
        dueThinnest();
        drawingMadeAnew();
        flippedKeepsItsDueOnes();
        stateKinds();
        stateMost();
        stateCounts();
        pointKinds();
        pointNearest();
        pointJoined();
        pointLayers();
        triangleKinds();
        triangleOfEachKind();
        triangleCounts();
        circleSides();
        circleNotThree();
        circleWithoutOverflow();
        whyReasons();
        whyFirstReason();
        badNotOnCircle();
        badNotBorder();
        badFirst();
        atRange();
        atEdges();
        atSmallest();
        hitRange();
        hitSides();
        cornerRange();
        cornerOrder();
        cornerNotBetween();
        liftAtEdges();
        treeAtEdges();
        centreAtEdges();
        roundnessAtEdges();
        shareAtEdges();
        Check.close("QuestionBoundaryTests");
    }

    private static CircleFlips withPoints(int[][] places) {
        CircleFlips flips = new CircleFlips();
        for (int[] place : places) {
            flips.put(place[0], place[1]);
        }
        return flips;
    }

    private static void none(String what, CircleFlips flips, Runnable call) {
        Check.thrown(what, flips, NoSuchElementException.class, call);
    }

    // ---- the terms

    // "Three points .. that are not on a line": none, one, two, and points that are all on one line
    private static void withoutTriangles() {
        for (String text : FLAT) {
            CircleFlips flips = Check.loaded(text);
            int points = flips.state(0);
            String hull = Math.min(points, 2) + " " + (points + 1) / 2;
            Check.same("5: " + text, Told.states(flips), points + " 0 0 0 0 0 0 " + hull + " 1 0 0");
            Check.same("14: lift of " + text, flips.lift(), 0);
            Check.same("18: share of " + text, flips.share(), 0.0f);
            none("10: badEdge of " + text, flips, flips::badEdge);
            Check.same("11, 12: " + text, Check.row(flips.at(5, 5), flips.hit(5, 5)), "-1 0");
            for (int p = 0; p < points; p++) {
                Check.same("6: " + text, Check.row(flips.point(p, 2), flips.point(p, 3), flips.point(p, 5)), "0 0 0");
                Check.same("9: " + text, Check.row(flips.why(p, 0), flips.why(points - 1, p)), "1 1");
                Check.same("8: " + text, flips.circle(p, 0, points - 1, 0), 2);
            }
            Check.outside("7: " + text, flips, () -> flips.triangle(0, true, 0));
            Check.outside("7: " + text, flips, () -> flips.triangle(0, false, 0));
            Check.outside("16: " + text, flips, () -> flips.centre(0, true));
            Check.outside("17: " + text, flips, () -> flips.roundness(0));
            Check.same("23: " + text, flips.mend(500), 0);
        }
    }

    // "So of points on one circle that holds no point the one with the smallest index is joined with all others."
    private static void dueOnOneCircle() {
        Check.same("7: a square", Told.triangles(Check.loaded(SQUARE), true), "0 1 2, 0 2 3");
        Check.same("7: as", Told.triangles(Check.loaded("plane;at 4 0 0 0 4 4 0 4;"), true), "0 1 3, 0 2 3");
        Check.same("7: the points", Told.triangles(Check.loaded("plane;at 4 0 0 4 0 0 4 4;"), true), "0 1 2, 0 1 3");
        Check.same("7: are numbered", Told.triangles(Check.loaded("plane;at 4 4 4 0 0 4 0 0;"), true), "0 1 3, 0 2 3");
        CircleFlips grid = Check.loaded("plane;at 2 2 1 2 0 2 2 1 1 1 0 1 2 0 1 0 0 0;");
        Check.same("7: a grid", Told.triangles(grid, true), "0 1 4, 0 3 4, 1 2 5, 1 4 5, 3 4 7, 3 6 7, 4 5 8, 4 7 8");
        Check.same("7: others on the circle", Told.triangles(grid, true, 5), "1 1 1 1 1 1 1 1");
        CircleFlips hexagon = Check.loaded("plane;at 10 5 2 1 8 1 0 5 2 9 8 9;");
        Check.same("7: six", Told.triangles(hexagon, true), "0 1 2, 0 1 3, 0 3 4, 0 4 5");
        hexagon.put(5, 5);
        Check.same("7: six round one", Told.triangles(hexagon, true), "0 2 6, 0 5 6, 1 2 6, 1 3 6, 3 4 6, 4 5 6");
    }

    private static void dueOfTwentyOnOneCircle() {
        CircleFlips flips = Check.loaded(RING_OF_TWENTY);
        Check.same("5: twenty on one circle", Told.states(flips), "20 18 37 20 0 18 0 20 1 1 0 0");
        Check.same("7: all with the point 0", Told.triangles(flips, true), "0 1 4, 0 1 18, 0 2 5, 0 2 19, 0 3 6, 0 4 7, 0 5 8,"
                + " 0 6 9, 0 7 10, 0 8 11, 0 9 12, 0 10 13, 0 11 14, 0 12 15, 0 13 16, 0 14 17, 0 15 18, 0 16 19");
        Check.same("7: all the others are on it", Told.triangles(flips, true, 5), "17" + " 17".repeat(17));
        Check.same("7: none is within", Told.triangles(flips, true, 4), "0" + " 0".repeat(17));
        Check.same("12: all hold a place", asked(flips::hit, 20, 20, 37, 14, 38, 22), "18 0 0");
        flips.take(0);
        Check.same("20: all with the next one", Told.points(flips, 2), "18 3 3 2 3 3 3 3 3 3 3 3 3 3 3 3 3 2 3");
        Check.same("20: the smallest index is 0 again", Check.row(flips.point(0, 2), flips.point(0, 3), flips.state(5)),
                "18 18 17");
        flips.put(20, 20);
        Check.same("19: a point in the midst", Check.row(flips.state(5), flips.point(19, 3), flips.point(0, 3)), "19 19 3");
    }

    // "no point is within their circle": a fourth point just within, on and just outside the circle of three
    private static void dueWithinAndOutside() {
        String three = "plane;at 0 0 100 0 100 100";
        Check.same("7: just within", Told.triangles(Check.loaded(three + " 2 100;"), true), "0 1 3, 1 2 3");
        Check.same("7: on", Told.triangles(Check.loaded(three + " 0 100;"), true), "0 1 2, 0 2 3");
        Check.same("7: just outside", Told.triangles(Check.loaded(three + " 1 101;"), true), "0 1 2, 0 2 3");
        Check.same("7: just within, above", Told.triangles(Check.loaded(three + " 60 119;"), true), "0 1 3, 1 2 3");
        Check.same("7: on, above", Told.triangles(Check.loaded(three + " 60 120;"), true), "0 1 2, 0 2 3");
        Check.same("7: just outside, above", Told.triangles(Check.loaded(three + " 60 121;"), true), "0 1 2, 0 2 3");
    }

    // "Due triangles have indexes from 0 by a, then b, then c."
    private static void dueOrder() {
        CircleFlips flips = Check.loaded("plane;at 10 5 90 20 100 80 20 90 50 50 55 45;");
        String due = "0 1 5, 0 3 4, 0 4 5, 1 2 5, 2 3 4, 2 4 5";
        Check.same("7: in their order", Told.triangles(flips, true), due);
        Check.same("7: of the drawing too", Told.triangles(flips, false), due);
        flips.flip(5, 2);
        Check.same("7: flipped, in their order", Told.triangles(flips, false), "0 1 5, 0 3 4, 0 4 5, 1 2 4, 1 4 5, 2 3 4");
        Check.same("7: the due ones as before", Told.triangles(flips, true), due);
        flips.undo();
        Check.same("7: as before", Told.triangles(flips, false), due);
    }

    // "turn(a, b, c) .. above 0 if one turns left at b, 0 if they are on a line", next to a line
    private static void dueThinnest() {
        CircleFlips flips = Check.loaded("plane;at 0 0 200 199 199 198;");
        Check.same("7: the thinnest one", Check.row(flips.state(5), flips.triangle(0, true, 3), flips.circle(0, 1, 2, 2)),
                "1 1 0");
        Check.same("7: on a line", Check.loaded("plane;at 0 0 200 198 100 99;").state(5), 0);
        Check.same("7: the widest one", Check.loaded("plane;at 0 0 200 0 200 200;").triangle(0, true, 3), 40000);
        CircleFlips straight = Check.loaded("plane;at 0 0 200 100 100 50 100 51;");
        Check.same("7: one of four off the line", Told.triangles(straight, true), "0 2 3, 1 2 3");
    }

    // "As points are put, taken or moved, and behind load, it is made of the due triangles anew."
    private static void drawingMadeAnew() {
        for (int change = 0; change < 7; change++) {
            CircleFlips flips = Check.loaded(SQUARE + "at 9 9;");
            flips.flip(0, 2);
            Check.same("5: flipped", flips.state(6), 1);
            boolean isAnew = true;
            switch (change) {
                case 0: flips.put(50, 60); break;
                case 1: flips.take(4); break;
                case 2: flips.move(4, 9, 10); break;
                case 3: flips.move(4, 9, 9); break;
                case 4: Check.load(flips, SQUARE); break;
                case 5: flips.mend(500); isAnew = false; break;
                default: flips.put(9, 8); flips.undo(); isAnew = false; break;
            }
            Check.same("5: made anew by change " + change, flips.state(6), isAnew ? 0 : 1);
        }
    }

    private static void flippedKeepsItsDueOnes() {
        CircleFlips flips = Check.loaded(RHOMBUS);
        flips.flip(2, 3);
        Check.same("5: due triangles, edges that are no due ones", Check.row(flips.state(5), flips.state(6), flips.state(4)),
                "2 1 1");
        Check.same("6: edges, and due edges", Told.points(flips, 2) + " / " + Told.points(flips, 3), "3 3 2 2 / 2 2 3 3");
        Check.same("7: within, of the drawing and of the due ones",
                Told.triangles(flips, false, 4) + " / " + Told.triangles(flips, true, 4), "1 1 / 0 0");
        Check.same("12: of the due ones", asked(flips::hit, 10, 11, 10, 5, 19, 4), "0 2 1");
        Check.same("16: of the due ones", flips.centre(0, true) + " " + flips.centre(1, true), "6.25 13.75");
        Check.same("17: of the drawing", flips.roundness(1), Float.floatToIntBits(100f / 650f));
    }

    // ---- promise 5

    // "if what is out of range"
    private static void stateKinds() {
        for (String text : new String[] {"plane;", SQUARE}) {
            CircleFlips flips = Check.loaded(text);
            Check.same("5: state(11) is the last", flips.state(11), 0);
            Check.illegal("5: state(12)", flips, () -> flips.state(12));
            for (int what : NO_KIND) {
                Check.illegal("5: state(" + what + ")", flips, () -> flips.state(what));
            }
        }
    }

    private static void stateMost() {
        CircleFlips flips = Check.loaded(LINE_OF_TWENTY);
        Check.same("5: twenty on a line", Told.states(flips), "20 0 0 0 0 0 0 2 10 1 0 0");
        flips.move(19, 200, 0);
        Check.same("5: one of them off it", Told.states(flips), "20 18 37 20 0 18 0 3 10 2 0 0");
        CircleFlips nest = Check.loaded("plane;at 0 0 200 0 100 200 12 8 188 8 100 180 30 18 170 18 100 150 50 30 150 30 100 120"
                + " 70 40 130 40 100 90 90 50 110 50 100 70 99 55 101 55;");
        Check.same("5: seven layers", Check.row(nest.state(7), nest.state(8)), "3 7");
        Check.same("5: the most triangles and edges", Check.row(nest.state(1), nest.state(2), nest.state(3), nest.state(5)),
                "35 54 3 35");
        Check.same("7: the last of them",
                Check.row(nest.triangle(34, false, 0), nest.triangle(34, true, 1), nest.triangle(34, false, 2)), "17 18 19");
        Check.outside("7: beyond the last", nest, () -> nest.triangle(35, true, 0));
        Check.same("22: one of the first is flipped", nest.flip(0, 4), 103);
        Check.same("7: the last of them still",
                Check.row(nest.triangle(34, false, 0), nest.triangle(34, false, 1), nest.triangle(34, false, 2)), "17 18 19");
        Check.same("6: three a layer", Told.points(nest, 4), "0 0 0 1 1 1 2 2 2 3 3 3 4 4 4 5 5 5 6 6");
    }

    // "10 flips that were done since the latest load (by the text, by flip and by mend), 11 points that were put since then"
    private static void stateCounts() {
        CircleFlips flips = Check.loaded(RHOMBUS + "flip 2 3;");
        Check.same("5: by the text", Check.row(flips.state(10), flips.state(11)), "1 0");
        flips.mend(500);
        Check.same("5: by mend", flips.state(10), 2);
        flips.mend(500);
        Check.same("5: mend without flips", flips.state(10), 2);
        flips.flip(3, 2);
        Check.same("5: by flip", flips.state(10), 3);
        Check.refused("5: not by one that is refused", flips, () -> flips.flip(3, 2));
        flips.put(0, 0);
        flips.put(0, 1);
        Check.same("5: that were put", Check.row(flips.state(10), flips.state(11)), "3 2");
        flips.take(5);
        flips.take(0);
        flips.move(0, 9, 9);
        Check.same("5: not taken or moved", Check.row(flips.state(10), flips.state(11)), "3 2");
        flips.undo();
        flips.undo();
        flips.undo();
        flips.undo();
        Check.same("5: undone", Check.row(flips.state(10), flips.state(11)), "3 1");
    }

    // ---- promise 6

    // "if there is no such point"; "if what is out of range"; the first exception is that of the point
    private static void pointKinds() {
        for (int points = 1; points <= 4; points++) {
            CircleFlips flips = new CircleFlips();
            for (int p = 0; p < points; p++) {
                flips.put(200 * (p % 2), 200 * (p / 2));
            }
            int beyond = points;
            Check.same("6: the last point", Check.row(flips.point(beyond - 1, 0), flips.point(beyond - 1, 1)),
                    Check.row(200 * ((beyond - 1) % 2), 200 * ((beyond - 1) / 2)));
            Check.outside("6: beyond the last", flips, () -> flips.point(beyond, 0));
            for (int none : NO_KIND) {
                Check.outside("6: point(" + none + ", 6)", flips, () -> flips.point(none, 6));
                Check.outside("6: point(" + none + ", 7)", flips, () -> flips.point(none, 7));
                Check.outside("6: point(beyond, " + none + ")", flips, () -> flips.point(beyond, none));
                Check.illegal("6: point(0, " + none + ")", flips, () -> flips.point(0, none));
            }
            Check.illegal("6: point(0, 7)", flips, () -> flips.point(0, 7));
        }
    }

    // "the point nearest to it, of several the smallest index (-1 if there is no other one)"
    private static void pointNearest() {
        Check.same("6: no other one", Check.loaded("plane;at 5 5;").point(0, 6), -1);
        Check.same("6: two", Told.points(Check.loaded("plane;at 0 0 200 200;"), 6), "1 0");
        Check.same("6: of several", Told.points(Check.loaded("plane;at 5 5 0 5 5 0 10 5 5 10;"), 6), "1 0 0 0 0");
        Check.same("6: of several, the last ones", Told.points(Check.loaded("plane;at 90 90 0 5 5 0 10 5 5 10 5 5;"), 6),
                "3 5 5 5 5 1");
        Check.same("6: a little nearer", Told.points(Check.loaded("plane;at 0 0 200 0 0 199;"), 6), "2 0 0");
        Check.same("6: not along one side alone", Told.points(Check.loaded("plane;at 0 0 9 9 0 12 13 0;"), 6), "2 2 1 1");
    }

    // "the points with which it has an edge in the drawing, as the sum of 2^i over the points i"
    private static void pointJoined() {
        CircleFlips flips = Check.loaded(RING_OF_TWENTY);
        Check.same("6: with all others", Check.row(flips.point(0, 5), flips.point(0, 2)), "1048574 19");
        Check.same("6: with three", Check.row(flips.point(19, 5), flips.point(19, 2)), Check.row(1 + (1 << 2) + (1 << 16), 3));
        Check.same("6: with two", Check.row(flips.point(3, 5), flips.point(3, 2)), "65 2");
        flips.flip(0, 1);
        Check.same("6: flipped", Check.row(flips.point(0, 5), flips.point(0, 2), flips.point(0, 3), flips.point(4, 5)),
                Check.row(1048572, 18, 19, 1 + 2 + (1 << 7) + (1 << 18)));
    }

    // "the corners of all points are the layer 0, those of all others the layer 1, and so on"
    private static void pointLayers() {
        Check.same("6: one point", Told.points(Check.loaded("plane;at 9 9;"), 4), "0");
        Check.same("6: two points", Told.points(Check.loaded("plane;at 9 9 8 8;"), 4), "0 0");
        Check.same("6: three on a line", Told.points(Check.loaded("plane;at 9 9 8 8 0 0;"), 4), "0 1 0");
        Check.same("6: twenty on a line", Told.points(Check.loaded(LINE_OF_TWENTY), 4),
                "0 1 2 3 4 5 6 7 8 9 9 8 7 6 5 4 3 2 1 0");
        Check.same("6: on an edge of the hull", Told.points(Check.loaded("plane;at 0 0 4 0 2 0 4 4 0 4 4 2 2 4 0 2;"), 4),
                "0 0 1 0 0 1 1 1");
        Check.same("6: on a line between, inside", Told.points(Check.loaded("plane;at 2 2 0 0 4 0 4 4 0 4 1 2 3 2;"), 4),
                "2 0 0 0 0 1 1");
        Check.same("6: just within a triangle", Told.points(Check.loaded("plane;at 0 0 200 200 0 200 99 100;"), 4), "0 0 0 1");
        Check.same("6: just outside", Told.points(Check.loaded("plane;at 0 0 200 200 0 200 100 99;"), 4), "0 0 0 0");
        Check.same("6: a ring", Told.points(Check.loaded(RING_OF_TWENTY), 4), "0" + " 0".repeat(19));
    }

    // ---- promise 7

    // "if there is no such triangle"; "if what is out of range"; the first exception is that of the triangle
    private static void triangleKinds() {
        CircleFlips flips = Check.loaded(SQUARE);
        for (boolean isDue : new boolean[] {false, true}) {
            Check.same("7: the last one", flips.triangle(1, isDue, 6), 1);
            Check.outside("7: beyond the last", flips, () -> flips.triangle(2, isDue, 0));
            Check.illegal("7: triangle(1, .., 7)", flips, () -> flips.triangle(1, isDue, 7));
            Check.outside("7: the first exception", flips, () -> flips.triangle(2, isDue, 7));
            for (int none : NO_KIND) {
                Check.outside("7: triangle(" + none + ", .., 0)", flips, () -> flips.triangle(none, isDue, 0));
                Check.outside("7: triangle(" + none + ", .., -1)", flips, () -> flips.triangle(none, isDue, -1));
                Check.illegal("7: triangle(0, .., " + none + ")", flips, () -> flips.triangle(0, isDue, none));
            }
        }
    }

    // "isDue: whether of the due ones, not of the drawing"; "6 the triangles (of the same kind)"
    private static void triangleOfEachKind() {
        CircleFlips flips = Check.loaded("plane;at 10 5 90 20 100 80 20 90 50 50 55 45;");
        Check.same("7: as long as they are the same", Told.triangles(flips, false, 6), "2 2 3 2 2 3");
        flips.flip(2, 5);
        Check.same("7: of the drawing", Told.triangles(flips, false, 6), "2 2 3 2 3 2");
        Check.same("7: of the due ones", Told.triangles(flips, true, 6), "2 2 3 2 2 3");
        Check.same("7: turns of the drawing", Told.triangles(flips, false, 3), "2525 2950 425 2700 50 2900");
        Check.same("7: turns of the due ones", Told.triangles(flips, true, 3), "2525 2950 425 2350 2900 400");
        Check.same("7: within, of the drawing", Told.triangles(flips, false, 4), "0 0 0 1 1 0");
    }

    // "4 how many points are within its circle, 5 how many other points are on it, 6 .. in common"
    private static void triangleCounts() {
        CircleFlips one = Check.loaded("plane;at 0 0 200 0 0 200;");
        Check.same("7: one triangle, its turn", Told.triangles(one, true, 3), "40000");
        Check.same("7: and none beside it", one.triangle(0, true, 4) + one.triangle(0, true, 5) + one.triangle(0, true, 6), 0);
        CircleFlips three = Check.loaded("plane;at 0 0 200 0 0 200 50 50;");
        Check.same("7: each has two beside it", Told.triangles(three, true, 6), "2 2 2");
        CircleFlips flips = Check.loaded("plane;at 0 50 200 50 100 49 100 51 60 50 140 50;");
        Check.same("7: thin ones", Told.triangles(flips, false), "0 2 4, 0 3 4, 1 2 5, 1 3 5, 2 3 4, 2 3 5");
        flips.flip(2, 3);
        Check.same("7: flipped", Told.triangles(flips, false, 4), "0 0 0 0 1 1");
        Check.same("7: and the points on it", Told.triangles(flips, false, 5), "0 0 0 0 0 0");
        CircleFlips first = Check.loaded("plane;at 10 4 0 5 20 5 10 0 10 11;flip 0 4;");
        Check.same("7: a triangle without the point 0", Told.triangles(first, false), "0 1 2, 0 1 3, 0 2 3, 1 2 4");
        Check.same("7: and the point 0 within", Told.triangles(first, false, 4), "1 0 0 2");
    }

    // ---- promise 8

    // "1 if the point s is within the circle of p, q, r, 0 if it is on it, -1 if it is outside", in each order of p, q, r
    private static void circleSides() {
        int[][] orders = {{0, 1, 2}, {0, 2, 1}, {1, 0, 2}, {1, 2, 0}, {2, 0, 1}, {2, 1, 0}};
        CircleFlips flips = Check.loaded("plane;at 0 0 100 0 100 100 60 119 60 120 60 121 101 99 50 50 200 200;");
        for (int[] order : orders) {
            int[] sides = new int[9];
            for (int s = 0; s < 9; s++) {
                sides[s] = flips.circle(order[0], order[1], order[2], s);
            }
            Check.same("8: just within, on and just outside", Check.row(sides), "0 0 0 1 0 -1 -1 1 -1");
        }
    }

    // "2 if p, q, r are on a line (or not three)"; "if there are no such points"
    private static void circleNotThree() {
        CircleFlips flips = Check.loaded("plane;at 0 0 9 9 4 4 9 0;");
        Check.same("8: on a line", Check.row(flips.circle(0, 1, 2, 3), flips.circle(2, 0, 1, 0), flips.circle(1, 2, 0, 1)),
                "2 2 2");
        Check.same("8: two", Check.row(flips.circle(0, 0, 3, 1), flips.circle(0, 3, 0, 1), flips.circle(3, 0, 0, 1)), "2 2 2");
        Check.same("8: one", flips.circle(3, 3, 3, 3), 2);
        Check.same("8: s is one of them",
                Check.row(flips.circle(0, 1, 3, 0), flips.circle(0, 1, 3, 1), flips.circle(0, 1, 3, 3)), "0 0 0");
        for (int none : new int[] {-1, 4, Integer.MIN_VALUE, Integer.MAX_VALUE}) {
            Check.outside("8: p", flips, () -> flips.circle(none, 0, 0, 0));
            Check.outside("8: q", flips, () -> flips.circle(0, none, 0, 0));
            Check.outside("8: r", flips, () -> flips.circle(0, 0, none, 0));
            Check.outside("8: s", flips, () -> flips.circle(0, 1, 3, none));
            Check.outside("8: s, of points on a line", flips, () -> flips.circle(0, 1, 2, none));
        }
    }

    // "products are computed without overflow (long)"
    private static void circleWithoutOverflow() {
        int[][] places = {{0, 0}, {200, 0}, {200, 200}, {0, 200}, {199, 1}, {1, 200}, {100, 99}, {200, 199}, {199, 198}, {3, 2},
            {120, 80}, {0, 199}, {1, 1}, {57, 200}};
        for (int p = 0; p < places.length; p += 3) {
            for (int q = 0; q < places.length; q++) {
                CircleFlips flips = withPoints(places);
                for (int r = 0; r < places.length; r++) {
                    for (int s = 1; s < places.length; s += 4) {
                        Check.same("8: circle(" + Check.row(p, q, r, s) + ")", flips.circle(p, q, r, s),
                                side(places[p], places[q], places[r], places[s]));
                    }
                }
            }
        }
    }

    /** By the determinant of the document, in numbers without a bound; 2 on a line. */
    private static int side(int[] a, int[] b, int[] c, int[] d) {
        long turn = Model.turn(a, b, c);
        BigInteger sum = term(a, b, c, d).add(term(b, c, a, d)).add(term(c, a, b, d));
        return turn == 0 ? 2 : sum.signum() * Long.signum(turn);
    }

    /** The square of the distance of a from d, times what the other two turn at d. */
    private static BigInteger term(int[] a, int[] b, int[] c, int[] d) {
        return BigInteger.valueOf(Model.squares(a, d)).multiply(BigInteger.valueOf(Model.turn(d, b, c)));
    }

    // ---- promise 9

    // "1 there is no such edge (or a is b); 2 it is border; 3 c, d and a are on a line, or c, d and b are,
    // or a and b are on the same side of the line through c and d"
    private static void whyReasons() {
        CircleFlips square = Check.loaded(SQUARE);
        Check.same("9: not refused", Check.row(square.why(0, 2), square.why(2, 0)), "0 0");
        Check.same("9: no such edge", Check.row(square.why(1, 3), square.why(3, 1)), "1 1");
        Check.same("9: a is b", Check.row(square.why(0, 0), square.why(3, 3)), "1 1");
        Check.same("9: border", Check.row(square.why(0, 1), square.why(1, 2), square.why(3, 2), square.why(3, 0)), "2 2 2 2");
        CircleFlips first = Check.loaded("plane;at 2 0 2 4 0 0 8 0;");
        Check.same("9: c, d and a on a line", Check.row(first.why(0, 1), first.why(1, 0)), "3 3");
        CircleFlips second = Check.loaded("plane;at 2 4 2 0 0 0 8 0;");
        Check.same("9: c, d and b on a line", Check.row(second.why(0, 1), second.why(1, 0)), "3 3");
        CircleFlips same = Check.loaded("plane;at 0 0 8 0 4 2 4 8;");
        Check.same("9: on the same side", Check.row(same.why(0, 2), same.why(2, 1), same.why(2, 3)), "3 3 3");
        CircleFlips nearly = Check.loaded("plane;at 2 1 2 5 0 2 8 2;");
        Check.same("9: just on both sides", nearly.why(0, 1), 0);
    }

    // "the first reason that holds", and the drawing as it is then
    private static void whyFirstReason() {
        CircleFlips line = Check.loaded("plane;at 0 0 4 0 8 0;");
        Check.same("9: no edges on a line", Check.row(line.why(0, 1), line.why(0, 2), line.why(1, 1)), "1 1 1");
        Check.same("9: one point", Check.loaded("plane;at 1 1;").why(0, 0), 1);
        CircleFlips one = Check.loaded("plane;at 0 0 4 0 0 4;");
        Check.same("9: one triangle", Check.row(one.why(0, 1), one.why(1, 2), one.why(2, 0)), "2 2 2");
        CircleFlips square = Check.loaded(SQUARE);
        square.flip(0, 2);
        Check.same("9: flipped", Check.row(square.why(0, 2), square.why(1, 3), square.why(0, 1)), "1 0 2");
        for (int none : new int[] {-1, 4, Integer.MIN_VALUE, Integer.MAX_VALUE}) {
            Check.outside("9: p", square, () -> square.why(none, 0));
            Check.outside("9: q", square, () -> square.why(0, none));
            Check.outside("9: both", square, () -> square.why(none, none));
        }
    }

    // ---- promise 10

    // "An inner edge is bad if d is within the circle of a, b, c." On it, it is not.
    private static void badNotOnCircle() {
        CircleFlips on = Check.loaded("plane;at 0 0 100 0 100 100 0 100;flip 0 2;");
        Check.same("10: on the circle", Check.row(on.state(4), on.state(6), on.mend(9)), "0 1 0");
        none("10: on the circle", on, on::badEdge);
        CircleFlips within = Check.loaded("plane;at 0 0 100 0 100 100 1 101;flip 0 2;");
        Check.same("10: just within", Check.row(within.state(4), within.badEdge(), within.mend(9)), "1 103 1");
        CircleFlips outside = Check.loaded("plane;at 0 0 100 0 100 100 2 100;flip 1 3;");
        Check.same("10: the other one", Check.row(outside.state(4), outside.badEdge(), outside.mend(9)), "1 2 1");
        CircleFlips ring = Check.loaded(RING_OF_TWENTY);
        for (int p = 1; p < 20; p++) {
            if (ring.why(0, p) == 0) {
                ring.flip(0, p);
            }
        }
        Check.same("10: no edge is bad on one circle", Check.row(ring.state(4), ring.mend(500)), "0 0");
        Check.same("10: but many are no due ones", Check.row(ring.state(6), ring.point(0, 2), ring.point(0, 3)), "17 2 19");
    }

    // "it is inner if two triangles have it, otherwise it is border"
    private static void badNotBorder() {
        CircleFlips flips = Check.loaded("plane;at 0 0 200 0 100 10 100 11;");
        Check.same("10: a border edge with points near to it", Check.row(flips.state(3), flips.state(4)), "3 0");
        none("10: is not bad", flips, flips::badEdge);
        CircleFlips none = Check.loaded("plane;at 0 0 0 9 9 0;");
        none("10: a triangle alone", none, none::badEdge);
    }

    // "with the smallest smaller point, of several with the smallest greater one"
    private static void badFirst() {
        CircleFlips flips = Check.loaded("plane;at 100 100 60 40 140 40 180 100 140 160 60 160 20 100 102 20 98 180;");
        String before = Told.triangles(flips, true);
        for (int round = 0; round < 4; round++) {
            for (int p = 8; p >= 0; p--) {
                int q = (p * 5 + round) % 9;
                if (flips.why(p, q) == 0) {
                    flips.flip(p, q);
                }
            }
        }
        while (flips.state(4) > 0 && flips.state(10) < 200) {
            Check.same("10: the first of all", flips.badEdge(), firstBad(flips));
            flips.mend(1);
        }
        Check.same("10: in the end the due ones", Told.triangles(flips, false), before);
    }

    /** By flipping each edge: only that of a bad one makes lift() less. */
    private static int firstBad(CircleFlips flips) {
        long lift = flips.lift();
        for (int p = 0; p < flips.state(0); p++) {
            for (int q = p + 1; q < flips.state(0); q++) {
                if (flips.why(p, q) == 0) {
                    flips.flip(q, p);
                    boolean isLess = flips.lift() < lift;
                    flips.undo();
                    if (isLess) {
                        return 100 * p + q;
                    }
                }
            }
        }
        return -1;
    }

    // ---- promises 11 and 12

    private interface Asked {
        int of(int x, int y);
    }

    /** What is answered for each of some places, x and y of each. */
    private static String asked(Asked asked, int... places) {
        int[] answers = new int[places.length / 2];
        for (int i = 0; i < answers.length; i++) {
            answers[i] = asked.of(places[2 * i], places[2 * i + 1]);
        }
        return Check.row(answers);
    }

    // "both from -1000 to 1000"
    private static void wrongPlaces(String name, CircleFlips flips, Asked asked) {
        for (int far : new int[] {-1001, 1001, 2000, Integer.MIN_VALUE, Integer.MAX_VALUE}) {
            Check.illegal(name + "(" + far + ", 0)", flips, () -> asked.of(far, 0));
            Check.illegal(name + "(0, " + far + ")", flips, () -> asked.of(0, far));
            Check.illegal(name + "(" + far + ", " + far + ")", flips, () -> asked.of(far, far));
        }
    }

    private static void atRange() {
        for (String text : new String[] {"plane;", SQUARE}) {
            CircleFlips flips = Check.loaded(text);
            wrongPlaces("11: at", flips, flips::at);
            Check.same("11: the farthest", asked(flips::at, 1000, 1000, -1000, -1000, -1000, 0, 0, 1000), "-1 -1 -1 -1");
        }
        CircleFlips wide = Check.loaded("plane;at 0 0 200 0 200 200 0 200;");
        Check.same("11: in the widest", asked(wide::at, 0, 0, 200, 0, 0, 200, 200, 200), "0 0 1 0");
        Check.same("11: just outside it", asked(wide::at, -1, 0, 201, 0, 0, -1, 200, 201), "-1 -1 -1 -1");
    }

    // "has a place within it or on its edges"
    private static void atEdges() {
        CircleFlips flips = Check.loaded("plane;at 10 10 30 10 10 30;");
        Check.same("11: its points", asked(flips::at, 10, 10, 30, 10, 10, 30), "0 0 0");
        Check.same("11: its edges", asked(flips::at, 20, 10, 10, 20, 20, 20, 29, 11), "0 0 0 0");
        thinOnes();
        Check.same("11: just within", asked(flips::at, 11, 11, 19, 20, 28, 11), "0 0 0");
        Check.same("11: just outside", asked(flips::at, 9, 10, 10, 9, 20, 21, 30, 11), "-1 -1 -1 -1");
        Check.same("11: on the line of an edge, beyond it", asked(flips::at, 31, 10, 10, 31, 10, -1000, 31, 9), "-1 -1 -1 -1");
        CircleFlips back = Check.loaded("plane;at 10 10 10 30 30 10;");
        Check.same("11: turned to the right", asked(back::at, 20, 20, 11, 11, 20, 21, 31, 10, 9, 10), "0 0 -1 -1 -1");
    }

    /** Places that turn by 1 at an edge of a triangle, on both sides of it, however its points are numbered. */
    private static void thinOnes() {
        String[] numbered = {"0 0 7 4 5 4", "7 4 5 4 0 0", "5 4 0 0 7 4", "0 0 5 4 7 4", "5 4 7 4 0 0", "7 4 0 0 5 4"};
        for (String places : numbered) {
            CircleFlips flips = Check.loaded("plane;at " + places + ";");
            Check.same("11: within a thin one, " + places, asked(flips::at, 4, 3, 5, 3, 6, 4), "0 0 0");
            Check.same("11: just out of it, " + places, asked(flips::at, 2, 1, 1, 1, 6, 5, 4, 4), "-1 -1 -1 -1");
        }
    }

    // "the triangle of the drawing with the smallest index"
    private static void atSmallest() {
        CircleFlips flips = Check.loaded("plane;at 10 5 90 20 100 80 20 90 50 50 55 45;");
        Check.same("11: at the points", asked(flips::at, 10, 5, 90, 20, 100, 80, 20, 90, 50, 50, 55, 45), "0 0 3 1 1 0");
        Check.same("11: before a flip", flips.at(60, 42), 3);
        flips.flip(2, 5);
        Check.same("11: of the drawing", flips.at(60, 42), 4);
        CircleFlips square = Check.loaded(SQUARE);
        Check.same("11: on a common edge", asked(square::at, 0, 0, 1, 1, 4, 4), "0 0 0");
    }

    private static void hitRange() {
        for (String text : new String[] {"plane;", SQUARE}) {
            CircleFlips flips = Check.loaded(text);
            wrongPlaces("12: hit", flips, flips::hit);
            Check.same("12: the farthest", asked(flips::hit, 1000, 1000, -1000, -1000, -1000, 0, 0, 1000), "0 0 0 0");
        }
        hitFar(new int[][] {{0, 0}, {200, 199}, {199, 198}});
        hitFar(new int[][] {{0, 0}, {200, 0}, {200, 200}});
        hitFar(new int[][] {{0, 200}, {200, 200}, {100, 190}});
    }

    // "products are computed without overflow (long)", with the farthest places
    private static void hitFar(int[][] corners) {
        CircleFlips flips = withPoints(corners);
        for (int x = -1000; x <= 1000; x += 100) {
            for (int y = -1000; y <= 1000; y += 125) {
                int side = side(corners[0], corners[1], corners[2], new int[] {x, y});
                Check.same("12: hit(" + x + ", " + y + ")", flips.hit(x, y), side > 0 ? 1 : 0);
            }
        }
    }

    // "how many due triangles have a place within their circles": on a circle is not within it
    private static void hitSides() {
        CircleFlips flips = Check.loaded("plane;at 0 0 100 0 100 100;");
        Check.same("12: on the circle", asked(flips::hit, 0, 0, 100, 100, 0, 100, 60, 120, -20, 40), "0 0 0 0 0");
        Check.same("12: just within", asked(flips::hit, 60, 119, 2, 100, -19, 40, 1, 0), "1 1 1 1");
        Check.same("12: just outside", asked(flips::hit, 60, 121, 1, 101, -21, 40, -1, 0, -1, 1), "0 0 0 0 0");
        Check.same("12: outside the triangle", asked(flips::hit, 10, 90, 50, -20, 50, -21), "1 1 0");
    }

    // ---- promise 13

    // "if there is no such place"
    private static void cornerRange() {
        String[] texts = {"plane;", "plane;at 5 5;", "plane;at 5 5 6 6;", "plane;at 5 5 6 6 7 7;", SQUARE, RING_OF_TWENTY};
        for (String text : texts) {
            CircleFlips flips = Check.loaded(text);
            int corners = flips.state(7);
            none("13: corner(" + corners + ") of " + text, flips, () -> flips.corner(corners));
            for (int place : new int[] {-1, 20, 21, Integer.MIN_VALUE, Integer.MAX_VALUE}) {
                none("13: corner(" + place + ") of " + text, flips, () -> flips.corner(place));
            }
        }
        Check.same("13: one point", Told.corners(Check.loaded("plane;at 5 5;")), "0");
        Check.same("13: two points", Told.corners(Check.loaded("plane;at 5 5 0 0;")), "0 1");
    }

    // "first the one with the smallest index, and from there on to the left (so that the inside is at the left)"
    private static void cornerOrder() {
        Check.same("13: to the left", Told.corners(Check.loaded(SQUARE)), "0 1 2 3");
        Check.same("13: numbered to the right", Told.corners(Check.loaded("plane;at 0 0 0 4 4 4 4 0;")), "0 3 2 1");
        Check.same("13: numbered across", Told.corners(Check.loaded("plane;at 4 4 0 0 0 4 4 0;")), "0 2 1 3");
        Check.same("13: the smallest index of the corners", Told.corners(Check.loaded("plane;at 2 2 2 1 4 0 4 4 0 4 0 0;")),
                "2 3 4 5");
        Check.same("13: twenty", Told.corners(Check.loaded(RING_OF_TWENTY)), "0 3 6 9 12 15 18 1 4 7 10 13 16 19 2 5 8 11 14 17");
        CircleFlips flips = Check.loaded("plane;at 1 0 0 0 4 0 4 4 0 4;");
        Check.same("13: not the point 0", Told.corners(flips), "1 2 3 4");
        flips.take(1);
        Check.same("13: as points are taken", Told.corners(flips), "0 1 2 3");
        flips.undo();
        Check.same("13: and undone", Told.corners(flips), "1 2 3 4");
    }

    // "that is not on a line between two others of them, nor within a triangle of three others of them"
    private static void cornerNotBetween() {
        Check.same("13: on a line", Told.corners(Check.loaded("plane;at 5 5 7 7 0 0 9 9 6 6;")), "2 3");
        Check.same("13: on an upright line", Told.corners(Check.loaded("plane;at 5 5 5 7 5 0 5 9;")), "2 3");
        Check.same("13: on a level line", Told.corners(Check.loaded("plane;at 5 5 7 5 0 5 9 5;")), "2 3");
        Check.same("13: on each edge", Told.corners(Check.loaded("plane;at 2 0 4 2 2 4 0 2 0 0 4 0 4 4 0 4 1 0 4 3;")),
                "4 5 6 7");
        Check.same("13: just out of an edge", Told.corners(Check.loaded("plane;at 0 1 200 1 200 200 0 200 100 0;")), "0 4 1 2 3");
        String[] thin = {"0 0 200 199 199 198", "199 198 0 0 200 199", "200 199 199 198 0 0"};
        String[] layers = {"0 0 1 0", "1 0 0 0", "0 1 0 0"};
        for (int i = 0; i < thin.length; i++) {
            Check.same("13: the thinnest, " + thin[i], Told.corners(Check.loaded("plane;at " + thin[i] + ";")), "0 2 1");
            Check.same("6: just within, " + thin[i], Told.points(Check.loaded("plane;at " + thin[i] + " 3 2;"), 4), layers[i]);
        }
        Check.same("13: just within one", Told.corners(Check.loaded("plane;at 0 0 200 0 200 200 0 200 100 1;")), "0 1 2 3");
    }

    // ---- promises 14 to 18

    // "each flip of a bad edge makes it less"; products without overflow
    private static void liftAtEdges() {
        Check.same("14: none", new CircleFlips().lift(), 0);
        Check.same("14: the widest", Check.loaded("plane;at 0 0 200 0 200 200 0 200;").lift(), 9600000000L);
        Check.same("14: the farthest", Check.loaded("plane;at 200 200 199 200 200 199;").lift(), 239202);
        Check.same("14: turned to the right", Check.loaded("plane;at 0 0 0 4 4 0;").lift(), 16 * 32);
        CircleFlips square = Check.loaded(SQUARE + "flip 0 2;");
        Check.same("14: a flip on one circle leaves it", square.lift(), 1536);
    }

    // "0 with fewer than two points"
    private static void treeAtEdges() {
        Check.same("15: none", new CircleFlips().tree(), 0);
        Check.same("15: one", Check.loaded("plane;at 200 200;").tree(), 0);
        Check.same("15: two", Check.loaded("plane;at 200 200 0 0;").tree(), 80000);
        Check.same("15: twenty", Check.loaded(LINE_OF_TWENTY).tree(), 38);
        Check.same("15: squares, not lengths", Check.loaded("plane;at 0 0 10 0 5 1;").tree(), 52);
        Check.same("15: the last joins two groups", Check.loaded("plane;at 0 0 200 200 1 0 200 199 0 1 199 200;").tree(),
                4 + 2 * 199 * 199);
        CircleFlips flips = Check.loaded(SQUARE);
        flips.flip(0, 2);
        Check.same("15: the drawing does not matter", flips.tree(), 48);
    }

    // "each converted to double, and divided by 2.0 * turn(a, b, c) as a double"
    private static void centreAtEdges() {
        CircleFlips square = Check.loaded(SQUARE);
        Check.outside("16: beyond the last", square, () -> square.centre(2, true));
        for (int none : NO_KIND) {
            Check.outside("16: centre(" + none + ", true)", square, () -> square.centre(none, true));
            Check.outside("16: centre(" + none + ", false)", square, () -> square.centre(none, false));
        }
        CircleFlips thin = Check.loaded("plane;at 0 0 200 199 199 198;");
        Check.same("16: far off", thin.centre(0, true) + " " + thin.centre(0, false), "-39401.5 39799.5");
        CircleFlips left = Check.loaded("plane;at 0 0 7 1 0 3;");
        Check.same("16: turned to the left", left.centre(0, true) + " " + left.centre(0, false), 141.0 / 42.0 + " 1.5");
        CircleFlips right = Check.loaded("plane;at 0 0 0 3 7 1;");
        Check.same("16: turned to the right", right.centre(0, true) + " " + right.centre(0, false), 141.0 / 42.0 + " 1.5");
        CircleFlips apart = Check.loaded("plane;at 1 2 8 3 4 9;");
        Check.same("16: none at 0", apart.centre(0, true) + " " + apart.centre(0, false), 384.0 / 92.0 + " " + 440.0 / 92.0);
        CircleFlips minus = Check.loaded("plane;at 2 0 0 1 3 1 1 0;");
        Check.same("16: both have this one", minus.centre(0, true) + " " + minus.centre(1, true), "1.5 1.5");
        Check.same("16: at 0", Check.loaded("plane;at 0 0 2 0 1 1;").centre(0, false) == 0.0, true);
    }

    // "The bits (as of Float.floatToIntBits)", each converted to float
    private static void roundnessAtEdges() {
        CircleFlips square = Check.loaded(SQUARE);
        Check.outside("17: beyond the last", square, () -> square.roundness(2));
        for (int none : NO_KIND) {
            Check.outside("17: roundness(" + none + ")", square, () -> square.roundness(none));
        }
        Check.same("17: thin", Check.loaded("plane;at 0 0 200 199 199 198;").roundness(0), Float.floatToIntBits(1f / 158408f));
        Check.same("17: the widest", Check.loaded("plane;at 0 0 200 0 200 200;").roundness(0),
                Float.floatToIntBits(40000f / 160000f));
        Check.same("17: nearly even sides", Check.loaded("plane;at 0 0 200 0 100 173;").roundness(0),
                Float.floatToIntBits(34600f / 119858f));
        Check.same("17: turned to the right", Check.loaded("plane;at 0 0 100 173 200 0;").roundness(0),
                Float.floatToIntBits(34600f / 119858f));
        Check.same("17: a low one", Check.loaded("plane;at 0 0 4 0 2 1;").roundness(0), Float.floatToIntBits(4f / 26f));
    }

    // "the edges of the drawing, and the points, both converted to float and divided; 0 without points"
    private static void shareAtEdges() {
        Check.same("18: without points", new CircleFlips().share(), 0.0f);
        Check.same("18: without edges", Check.loaded("plane;at 1 1;").share(), 0.0f);
        Check.same("18: one triangle", Check.loaded("plane;at 1 1 2 2 1 2;").share(), 1.0f);
        Check.same("18: no whole number", Check.loaded("plane;at 0 0 2 0 0 2 2 2 1 1 4 1;").share(), 10f / 6f);
        Check.same("18: twenty", Check.loaded(RING_OF_TWENTY).share(), 37f / 20f);
        CircleFlips emptied = Check.loaded("plane;at 1 1;");
        emptied.take(0);
        Check.same("18: without points again", emptied.share(), 0.0f);
    }
}
