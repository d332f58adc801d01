import java.math.BigInteger;
import java.util.ArrayDeque;
import java.util.Deque;

/** Promises 19 to 25 at their boundaries: a function for each sentence of the document that names one. */
public final class ChangeBoundaryTests {
    private static final String SQUARE = "plane;at 0 0 4 0 4 4 0 4;";
    /** The due edge is 2, 3; flipped, 0, 1 is bad. */
    private static final String RHOMBUS = "plane;at 0 5 20 5 10 0 10 10;";
    private static final String TWENTY = "plane;at 2 19 26 3 35 30 3 14 30 5 30 35 5 10 35 10 26 37 10 5"
            + " 37 14 21 38 14 3 38 19 19 38 19 2 38 21 14 37 21 2 37 26;";
    private static final int[] FAR = {-1, 201, 1000, Integer.MIN_VALUE, Integer.MAX_VALUE};
    private static final int[] NO_POINT = {-1, 4, 20, Integer.MIN_VALUE, Integer.MAX_VALUE};

    public static void main(String[] args) {
        putRange();
        putFull();
        putTaken();
        putTriangles();
        takeRange();
        takeFirstAndLast();
        takeLess();
        takenLeaveNothing();
        moveRange();
        moveOwnPlace();
        moveTaken();
        moveCounts();
        flipRange();
        flipRefused();
        flipNewEdge();
        flipKeepsPoints();
        mendRange();
        mendAtMost();
        mendNothing();
        undoNothing();
        undoEach();
        undoMost();
        undoFinal();
        undoIsNoChange();
        undoKeepsText();
        undoLongRun();
        throwsAreNoChanges();
        checksumEmpty();
        checksumWraps();
        checksumParts();
        manyCalls();
        Check.close("ChangeBoundaryTests");
    }

    private static CircleFlips withPoints(int count) {
        CircleFlips flips = new CircleFlips();
        for (int p = 0; p < count; p++) {
            flips.put(10 * p, p * p % 17);
        }
        return flips;
    }

    // ---- promise 19

    // "x: 0 to 200"; "y: 0 to 200"; "if x or y is out of range"
    private static void putRange() {
        CircleFlips flips = new CircleFlips();
        Check.same("19: the edges of the plane",
                Check.row(flips.put(0, 0), flips.put(200, 0), flips.put(200, 200), flips.put(0, 200)), "0 1 2 3");
        Check.same("19: their places", Told.places(flips), "0 200 200 0 / 0 0 200 200");
        for (int far : FAR) {
            Check.illegal("19: put(" + far + ", 5)", flips, () -> flips.put(far, 5));
            Check.illegal("19: put(5, " + far + ")", flips, () -> flips.put(5, far));
            Check.illegal("19: put(" + far + ", " + far + ")", flips, () -> flips.put(far, far));
        }
    }

    // "if there are 20 points"; "If several exceptions apply to a call, the one that is listed first .. is thrown."
    private static void putFull() {
        CircleFlips flips = withPoints(19);
        Check.same("19: the 20th", flips.put(195, 195), 19);
        Check.refused("19: the 21st", flips, () -> flips.put(196, 196));
        Check.refused("19: the 21st, where one is", flips, () -> flips.put(195, 195));
        Check.illegal("19: the 21st, out of range", flips, () -> flips.put(201, 196));
        Check.illegal("19: the 21st, out of range", flips, () -> flips.put(196, -1));
        flips.take(3);
        Check.same("19: the 20th again", flips.put(196, 196), 19);
        flips.undo();
        Check.same("19: and once more", Check.row(flips.state(0), flips.put(30, 9)), "19 19");
        CircleFlips loaded = Check.loaded(TWENTY);
        Check.refused("19: behind a text of twenty", loaded, () -> loaded.put(100, 100));
        loaded.undo();
        Check.same("19: the first again", loaded.put(100, 100), 0);
    }

    // "or one is there"; "No two points are at one place."
    private static void putTaken() {
        CircleFlips flips = Check.loaded("plane;at 7 8 8 7;");
        Check.refused("19: the first one is there", flips, () -> flips.put(7, 8));
        Check.refused("19: the last one is there", flips, () -> flips.put(8, 7));
        Check.same("19: one beside them", Check.row(flips.put(7, 7), flips.put(8, 8), flips.put(7, 9), flips.put(6, 8)),
                "2 3 4 5");
        flips.take(0);
        Check.same("19: where one was taken", flips.put(7, 8), 5);
        flips.move(5, 100, 100);
        Check.same("19: where one was moved away", flips.put(7, 8), 6);
        Check.refused("19: where one was moved to", flips, () -> flips.put(100, 100));
        flips.undo();
        flips.undo();
        Check.refused("19: where one is again", flips, () -> flips.put(7, 8));
        Check.same("19: where none is", flips.put(100, 100), 6);
    }

    private static void putTriangles() {
        CircleFlips flips = new CircleFlips();
        flips.put(0, 0);
        flips.put(4, 0);
        Check.same("19: two points", Check.row(flips.state(1), flips.state(5), flips.state(7)), "0 0 2");
        flips.put(2, 0);
        Check.same("19: on a line", Check.row(flips.state(1), flips.state(5), flips.state(7)), "0 0 2");
        flips.put(2, 2);
        Check.same("19: off it", Told.triangles(flips, false), "0 2 3, 1 2 3");
        flips.put(2, 1);
        Check.same("19: on an edge", Told.triangles(flips, true), "0 2 4, 0 3 4, 1 2 4, 1 3 4");
        Check.same("19: behind them", Told.triangles(flips, false), "0 2 4, 0 3 4, 1 2 4, 1 3 4");
        Check.same("19: counted", Check.row(flips.state(9), flips.state(10), flips.state(11)), "5 0 5");
    }

    // ---- promise 20

    // "if there is no such point"
    private static void takeRange() {
        CircleFlips flips = Check.loaded(SQUARE);
        for (int point : NO_POINT) {
            Check.outside("20: take(" + point + ")", flips, () -> flips.take(point));
        }
        CircleFlips none = new CircleFlips();
        Check.outside("20: of none", none, () -> none.take(0));
        CircleFlips one = Check.loaded("plane;at 5 5;");
        Check.outside("20: beyond the only one", one, () -> one.take(1));
        Check.same("20: the only one", Check.row(one.take(0), one.state(0), one.state(7), one.state(8)), "0 0 0 0");
        Check.outside("20: no more", one, () -> one.take(0));
    }

    // "points behind it have an index less by 1 then"
    private static void takeFirstAndLast() {
        int[] places = {10, 20, 30, 40};
        for (int taken = 0; taken < 4; taken++) {
            CircleFlips flips = new CircleFlips();
            StringBuilder left = new StringBuilder();
            for (int p = 0; p < 4; p++) {
                flips.put(places[p], 100);
                left.append(p == taken ? "" : (left.length() == 0 ? "" : " ") + places[p]);
            }
            flips.take(taken);
            Check.same("20: without " + taken, Told.points(flips, 0), left);
            Check.same("20: the next one that is put", flips.put(50, 100), 3);
            flips.undo();
            flips.undo();
            Check.same("20: undone", Told.points(flips, 0), "10 20 30 40");
        }
        CircleFlips twenty = Check.loaded(TWENTY);
        twenty.take(19);
        Check.same("20: the last of twenty", Check.row(twenty.state(0), twenty.point(18, 0), twenty.point(18, 1)), "19 21 2");
        twenty.take(0);
        Check.same("20: the first of them", Check.row(twenty.state(0), twenty.point(0, 0), twenty.point(17, 1)), "18 26 2");
    }

    // "Returns the due triangles then."
    private static void takeLess() {
        CircleFlips flips = Check.loaded("plane;at 0 0 4 0 4 4 0 4 2 1;");
        flips.flip(2, 4);
        Check.same("20: down to none", Check.row(flips.take(4), flips.take(3), flips.take(2), flips.take(1), flips.take(0)),
                "2 1 0 0 0");
        CircleFlips line = Check.loaded("plane;at 0 0 4 0 8 0 4 4;");
        Check.same("20: only a line is left", Check.row(line.take(3), line.state(0)), "0 3");
        CircleFlips twenty = Check.loaded(TWENTY);
        Check.same("20: of one circle", Check.row(twenty.take(19), twenty.take(5), twenty.take(0)), "17 16 15");
    }

    private static void takenLeaveNothing() {
        for (int left = 19; left >= 0; left--) {
            CircleFlips flips = Check.loaded(TWENTY);
            for (int before = 20; before > left; before--) {
                flips.take(13 * before % 19 % before);
            }
            CircleFlips fresh = new CircleFlips();
            for (int p = 0; p < left; p++) {
                fresh.put(flips.point(p, 0), flips.point(p, 1));
            }
            Check.same("20: as without them", sums(flips), sums(fresh));
        }
    }

    private static String sums(CircleFlips flips) {
        int hits = 0;
        int covered = 0;
        for (int place = 0; place < 40; place += 3) {
            hits += flips.hit(place, 20) + flips.hit(20, place);
            covered += flips.at(place, 20) * (place + 1) + flips.at(20, place);
        }
        return hits + " " + covered + " " + flips.lift() + " " + flips.tree() + " " + Told.triangles(flips,
                false) + " " + Told.corners(flips);
    }

    // ---- promise 21

    // the exceptions of move, each listed before the next one
    private static void moveRange() {
        CircleFlips flips = Check.loaded(SQUARE);
        for (int point : NO_POINT) {
            Check.outside("21: move(" + point + ", 9, 9)", flips, () -> flips.move(point, 9, 9));
            Check.outside("21: move(" + point + ", 201, 9)", flips, () -> flips.move(point, 201, 9));
            Check.outside("21: move(" + point + ", 0, 0)", flips, () -> flips.move(point, 0, 0));
        }
        for (int far : FAR) {
            Check.illegal("21: move(0, " + far + ", 9)", flips, () -> flips.move(0, far, 9));
            Check.illegal("21: move(3, 9, " + far + ")", flips, () -> flips.move(3, 9, far));
        }
        Check.same("21: to the edges of the plane",
                Check.row(flips.move(0, 200, 0), flips.move(1, 200, 200), flips.move(2, 0, 200), flips.move(3, 0, 0)), "1 1 1 2");
        Check.same("21: their places", Told.places(flips), "200 200 0 0 / 0 200 200 0");
        CircleFlips none = new CircleFlips();
        Check.outside("21: of none", none, () -> none.move(0, 9, 9));
        CircleFlips last = Check.loaded(TWENTY);
        Check.outside("21: beyond twenty", last, () -> last.move(20, 9, 9));
        last.move(19, 9, 9);
        Check.same("21: the last of twenty", Check.row(last.point(19, 0), last.point(19, 1)), "9 9");
    }

    // "if another point is there": its own place is free, and the move a change, "also if all data stay as they were"
    private static void moveOwnPlace() {
        CircleFlips flips = Check.loaded(SQUARE);
        long before = flips.checksum();
        Check.same("21: to its own place", Check.row(flips.move(2, 4, 4), flips.move(0, 0, 0), flips.state(9)), "0 0 3");
        Check.same("21: all data as they were", flips.checksum(), before);
        flips.flip(0, 2);
        Check.same("21: what is due was due, not drawn", flips.move(1, 4, 0), 0);
        Check.same("21: and is drawn anew", flips.checksum() - before, checksumOfFlips(flips, 1));
        CircleFlips one = Check.loaded("plane;at 5 5;");
        Check.same("21: the only one", Check.row(one.move(0, 5, 5), one.move(0, 6, 5), one.state(9)), "0 0 3");
    }

    /** What so many flips, of which nothing is left, make of a checksum. */
    private static long checksumOfFlips(CircleFlips flips, int count) {
        int behind = 3 + 7 * flips.state(0) + 7 * flips.state(1) + 7 * flips.state(5);
        return BigInteger.valueOf(31).pow(behind).longValue() * count;
    }

    private static void moveTaken() {
        CircleFlips flips = Check.loaded(SQUARE);
        for (int p = 0; p < 4; p++) {
            int point = p;
            for (int q = 0; q < 4; q++) {
                int x = flips.point(q, 0);
                int y = flips.point(q, 1);
                if (p != q) {
                    Check.refused("21: " + p + " to the place of " + q, flips, () -> flips.move(point, x, y));
                }
            }
        }
        flips.move(0, 9, 9);
        Check.same("21: to a place that is left", flips.move(1, 0, 0), 0);
        Check.refused("21: to a place that was moved to", flips, () -> flips.move(2, 9, 9));
        CircleFlips twenty = Check.loaded(TWENTY);
        Check.refused("21: of twenty", twenty, () -> twenty.move(0, 37, 26));
        Check.same("21: put would be refused, move is not", twenty.move(0, 37, 27), 17);
    }

    // "Returns how many due triangles there are then that were none before (with other places, perhaps)."
    private static void moveCounts() {
        int[][] moves = {{2, 5, 5, 2}, {2, 3, 3, 0}, {2, 1, 1, 1}, {2, 200, 200, 2}, {0, 1, 1, 0}, {3, 0, 200, 0}, {1, 2, 2, 2},
                {2, 0, 8, 2}};
        for (int[] move : moves) {
            CircleFlips flips = Check.loaded(SQUARE);
            Check.same("21: move(" + Check.row(move[0], move[1], move[2]) + ")", flips.move(move[0], move[1], move[2]), move[3]);
            flips.undo();
            flips.flip(0, 2);
            Check.same("21: also of a drawing that was flipped", flips.move(move[0], move[1], move[2]), move[3]);
        }
        CircleFlips square = Check.loaded(SQUARE);
        Check.same("21: only those just before count",
                Check.row(square.move(2, 1, 1), square.move(2, 3, 3), square.move(2, 1, 1)), "1 0 1");
        CircleFlips line = Check.loaded("plane;at 0 0 4 0 8 0 12 0;");
        Check.same("21: off a line", Check.row(line.move(3, 6, 6), line.move(3, 12, 0), line.move(1, 4, 1)), "2 0 2");
        CircleFlips twenty = Check.loaded(TWENTY);
        Check.same("21: from one circle into its midst", Check.row(twenty.move(0, 20, 20), twenty.state(5)), "1 19");
    }

    // ---- promise 22

    // "if there are no such points"; it comes before "if it is refused"
    private static void flipRange() {
        CircleFlips flips = Check.loaded(SQUARE);
        for (int point : NO_POINT) {
            Check.outside("22: flip(" + point + ", 2)", flips, () -> flips.flip(point, 2));
            Check.outside("22: flip(0, " + point + ")", flips, () -> flips.flip(0, point));
            Check.outside("22: flip(" + point + ", " + point + ")", flips, () -> flips.flip(point, point));
        }
        CircleFlips none = new CircleFlips();
        Check.outside("22: of none", none, () -> none.flip(0, 0));
    }

    // "if it is refused", for each of the reasons
    private static void flipRefused() {
        String[] texts = {SQUARE, SQUARE, SQUARE, "plane;at 2 0 2 4 0 0 8 0;", "plane;at 2 4 2 0 0 0 8 0;",
                "plane;at 0 0 8 0 4 2 4 8;",
            "plane;at 5 5;", "plane;at 0 0 4 0 8 0;"};
        int[][] edges = {{1, 3}, {2, 2}, {0, 1}, {0, 1}, {0, 1}, {2, 3}, {0, 0}, {0, 1}};
        int[] reasons = {1, 1, 2, 3, 3, 3, 1, 1};
        for (int i = 0; i < texts.length; i++) {
            CircleFlips flips = Check.loaded(texts[i]);
            int p = edges[i][0];
            int q = edges[i][1];
            Check.same("9: the reason", Check.row(flips.why(p, q), flips.why(q, p)), Check.row(reasons[i], reasons[i]));
            Check.refused("22: refused, reason " + reasons[i], flips, () -> flips.flip(p, q));
            Check.refused("22: refused, turned", flips, () -> flips.flip(q, p));
        }
    }

    // "Returns 100 * the smaller point + the greater one of the new edge."
    private static void flipNewEdge() {
        CircleFlips flips = Check.loaded(TWENTY);
        int[][] edges = {{0, 1, 418}, {0, 10, 713}, {16, 0, 1319}, {4, 18, 1}, {13, 7, 10}, {1319, 0, 16}};
        for (int[] edge : edges) {
            int p = edge[0] > 99 ? edge[0] / 100 : edge[0];
            int q = edge[0] > 99 ? edge[0] % 100 : edge[1];
            Check.same("22: flip(" + p + ", " + q + ")", flips.flip(p, q), edge[2]);
        }
        Check.same("22: all as it was, but for the flips", Check.row(flips.state(6), flips.state(10), flips.state(9)), "0 6 7");
        Check.same("22: a flip that makes nothing bad", Check.row(flips.flip(1, 0), flips.state(4), flips.state(2)), "418 0 37");
    }

    private static void flipKeepsPoints() {
        CircleFlips flips = Check.loaded(RHOMBUS);
        String due = Told.triangles(flips, true);
        String places = Told.places(flips);
        long lift = flips.lift();
        flips.flip(2, 3);
        Check.same("22: the triangles", Told.triangles(flips, false), "0 1 2, 0 1 3");
        Check.same("22: the due ones and the points", Told.triangles(flips, true) + Told.places(flips), due + places);
        Check.same("22: the edges", Check.row(flips.state(2), flips.state(3), flips.why(2, 3), flips.why(0, 1)), "5 4 1 0");
        Check.same("14: more, as it is bad then", flips.lift() > lift, true);
    }

    // ---- promise 23

    // "how many at most, 1 to 500"
    private static void mendRange() {
        for (String text : new String[] {"plane;", SQUARE, RHOMBUS + "flip 2 3;"}) {
            CircleFlips flips = Check.loaded(text);
            for (int most : new int[] {0, -1, 501, 512, Integer.MIN_VALUE, Integer.MAX_VALUE}) {
                Check.illegal("23: mend(" + most + ")", flips, () -> flips.mend(most));
            }
        }
        Check.same("23: 500 at most", Check.loaded(RHOMBUS + "flip 2 3;").mend(500), 1);
        Check.same("23: 1 at most", Check.loaded(RHOMBUS + "flip 2 3;").mend(1), 1);
    }

    // "Bad edges are flipped, one after the other: each time the one that badEdge() tells. It ends if no edge is bad."
    private static void mendAtMost() {
        String bent = "plane;at 10 10 10 0 0 5 20 5 30 0 30 10 40 5;flip 0 1;flip 4 5;";
        CircleFlips at = Check.loaded(bent);
        Check.same("23: two are bad", Check.row(at.state(4), at.badEdge()), "2 203");
        Check.same("23: one at most, the first", Check.row(at.mend(1), at.badEdge(), at.state(4), at.state(9)), "1 306 1 2");
        Check.same("23: the second", Check.row(at.mend(1), at.state(4), at.state(10), at.state(9)), "1 0 4 3");
        CircleFlips once = Check.loaded(bent);
        Check.same("23: two at most", Check.row(once.mend(2), once.state(4), once.state(9)), "2 0 2");
        Check.same("23: as one by one", once.checksum(), at.checksum());
        CircleFlips more = Check.loaded(bent);
        Check.same("23: three at most", Check.row(more.mend(3), more.state(4), more.state(10)), "2 0 4");
        Check.same("23: one change", Check.row(more.undo(), more.state(4), more.state(10)), "1 2 2");
    }

    // "each such call that does not throw an exception is a change, also if all data stay as they were"
    private static void mendNothing() {
        CircleFlips flips = Check.loaded(SQUARE + "flip 0 2;");
        long before = flips.checksum();
        Check.same("23: on the circle is not bad", Check.row(flips.mend(500), flips.mend(1), flips.state(9)), "0 0 3");
        Check.same("23: nothing is flipped", flips.checksum(), before);
        Check.same("23: but it is undone", Check.row(flips.undo(), flips.undo(), flips.state(0), flips.undo(), flips.state(0)),
                "2 1 4 0 0");
    }

    // ---- promise 24

    // "-1 if there was none to undo, and nothing changes then"
    private static void undoNothing() {
        CircleFlips flips = new CircleFlips();
        Check.same("24: a new object", Check.row(flips.undo(), flips.undo(), flips.state(9)), "-1 -1 0");
        flips.put(5, 5);
        Check.same("24: one change", Check.row(flips.undo(), flips.undo(), flips.state(0), flips.state(9)), "0 -1 0 0");
        CircleFlips full = withPoints(20);
        for (int left = 7; left >= 0; left--) {
            Check.same("24: the latest 8", Check.row(full.undo(), full.state(0)), Check.row(left, left + 12));
        }
        long sum = full.checksum();
        Check.same("24: the others are final", Check.row(full.undo(), full.undo(), full.state(0)), "-1 -1 12");
        Check.same("24: nothing changes", full.checksum(), sum);
        Check.same("24: from there on", Check.row(full.put(199, 199), full.state(9), full.undo(), full.undo()), "12 1 0 -1");
    }

    private interface Change {
        void on(CircleFlips flips);
    }

    // "The changing methods are load (when it succeeds), put, take, move, flip and mend"
    private static void undoEach() {
        Change[] changes = {each -> Check.load(each, SQUARE), each -> Check.load(each, "plane;"), each -> each.put(33, 44),
            each -> each.take(0), each -> each.take(4), each -> each.move(1, 33, 44), each -> each.move(1, 20, 5),
            each -> each.mend(500), each -> each.mend(1)};
        for (int i = 0; i < changes.length; i++) {
            undoOne("change " + i, changes[i]);
        }
        CircleFlips flips = flipped();
        for (int p = 0; p < 5; p++) {
            for (int q = 0; q < 5; q++) {
                if (flips.why(p, q) == 0) {
                    int from = p;
                    int to = q;
                    undoOne("flip(" + p + ", " + q + ")", each -> each.flip(from, to));
                }
            }
        }
    }

    /** A drawing with a bad edge, behind four changes. */
    private static CircleFlips flipped() {
        CircleFlips flips = Check.loaded("plane;at 0 5 20 5 10 0 10 10 1 9;");
        flips.put(90, 90);
        flips.take(5);
        flips.flip(2, 3);
        Check.same("24: before it", Check.row(flips.state(4) > 0 ? 1 : 0, flips.state(9)), "1 4");
        return flips;
    }

    private static void undoOne(String name, Change change) {
        CircleFlips flips = flipped();
        String before = flips.checksum() + Told.states(flips) + Told.triangles(flips, false) + Told.corners(flips);
        change.on(flips);
        Check.same("24: " + name, flips.state(9), 5);
        Check.same("24: undone", flips.undo(), 4);
        Check.same("24: all as before " + name,
                flips.checksum() + Told.states(flips) + Told.triangles(flips, false) + Told.corners(flips), before);
    }

    // "The latest 8 changes can be undone, the latest one first"
    private static void undoMost() {
        CircleFlips flips = new CircleFlips();
        for (int change = 1; change <= 20; change++) {
            flips.put(change, change * change % 13);
            Check.same("24: changes that can be undone", flips.state(9), Math.min(change, 8));
        }
        for (int left = 7; left >= 0; left--) {
            Check.same("24: that can still be undone", flips.undo(), left);
            Check.same("24: as state(9) tells", Check.row(flips.state(9), flips.state(0), flips.state(11)),
                    Check.row(left, 12 + left, 12 + left));
            Check.same("24: the latest one first", flips.point(flips.state(0) - 1, 0), 12 + left);
        }
    }

    // "a change is final as soon as 8 later ones, none of them undone, have been made"
    private static void undoFinal() {
        CircleFlips flips = withPoints(8);
        for (int i = 0; i < 5; i++) {
            Check.same("24: one is undone and another one made", Check.row(flips.undo(), flips.put(190, i), flips.state(9)),
                    "7 7 8");
        }
        Check.same("24: the first one is not final", Check.row(flips.undo(), flips.undo(), flips.undo(), flips.undo()),
                "7 6 5 4");
        Check.same("24: nor the others",
                Check.row(flips.undo(), flips.undo(), flips.undo(), flips.undo(), flips.undo(), flips.state(0)), "3 2 1 0 -1 0");
        CircleFlips later = withPoints(9);
        Check.same("24: the first of nine is final", later.state(9), 8);
        later.undo();
        Check.same("24: and stays so", Check.row(later.state(9), later.state(0)), "7 8");
        for (int left = 6; left >= 0; left--) {
            later.undo();
        }
        Check.same("24: when all others are undone", Check.row(later.state(0), later.undo(), later.state(0)), "1 -1 1");
    }

    private static void undoIsNoChange() {
        CircleFlips flips = withPoints(4);
        flips.undo();
        flips.undo();
        Check.same("24: an undo is not undone", Check.row(flips.state(9), flips.state(0), flips.undo(), flips.state(0)),
                "2 2 1 1");
        flips.put(50, 60);
        Check.same("24: what was undone does not come again",
                Check.row(flips.undo(), flips.state(0), flips.undo(), flips.undo()), "1 1 0 -1");
    }

    // "The input buffer and the error offset are not affected."
    private static void undoKeepsText() {
        CircleFlips flips = Check.loaded(SQUARE);
        Check.load(flips, "plane;at 9 9;");
        Check.load(flips, "plane;!");
        Check.append(flips, "plane;at 1 2 3 4   ;");
        flips.undo();
        Check.same("24: the error offset", Check.row(flips.errorOffset(), flips.state(0)), "6 4");
        flips.undo();
        Check.same("24: behind the first load", Check.row(flips.errorOffset(), flips.state(0), flips.undo()), "6 0 -1");
        Check.append(flips, " at 7 7;");
        Check.same("24: the buffer", Check.row(flips.load(28), flips.errorOffset(), flips.point(2, 0)), "3 -1 7");
        flips.undo();
        Check.illegal("24: stays empty", flips, () -> flips.load(1));
        Check.same("24: the error offset of the load that is undone", flips.errorOffset(), -1);
    }

    /** Changes and undos by a fixed rule, with what was before each kept here. */
    private static void undoLongRun() {
        CircleFlips flips = Check.loaded(RHOMBUS);
        Deque<Long> past = new ArrayDeque<>();
        past.addLast(0L);
        for (int step = 1; step <= 110; step++) {
            long before = flips.checksum();
            if (step * step % 7 < 2 && step % 3 != 0) {
                boolean isNone = past.isEmpty();
                Check.same("24: step " + step, flips.undo(), past.size() - 1);
                Check.same("24: undone by step " + step, flips.checksum(), isNone ? before : past.removeLast());
            } else {
                past.addLast(before);
                changeBy(flips, step);
            }
            if (past.size() > 8) {
                past.removeFirst();
            }
        }
    }

    private static void changeBy(CircleFlips flips, int step) {
        int points = flips.state(0);
        if (points < 4 || step % 5 == 1 && points < 20) {
            flips.put(step % 201, step * 37 % 201);
        } else if (step % 5 == 2) {
            flips.take(step % points);
        } else if (step % 5 == 3) {
            flips.move(step % points, 200 - step % 50, step * 53 % 201);
        } else {
            flips.mend(1 + step % 500);
        }
    }

    // "A method that throws an exception changes nothing."
    private static void throwsAreNoChanges() {
        CircleFlips flips = Check.loaded(RHOMBUS);
        flips.flip(2, 3);
        Check.append(flips, "plane;at 5 6       ;");
        Check.illegal("3: load", flips, () -> flips.load(21));
        Check.refused("19: put", flips, () -> flips.put(0, 5));
        Check.illegal("19: put", flips, () -> flips.put(0, 201));
        Check.outside("20: take", flips, () -> flips.take(4));
        Check.outside("21: move", flips, () -> flips.move(4, 7, 7));
        Check.illegal("21: move", flips, () -> flips.move(3, 7, -7));
        Check.refused("21: move", flips, () -> flips.move(3, 10, 0));
        Check.outside("22: flip", flips, () -> flips.flip(0, 4));
        Check.refused("22: flip", flips, () -> flips.flip(2, 3));
        Check.illegal("23: mend", flips, () -> flips.mend(0));
        Check.same("24: only the load and the flip",
                Check.row(flips.undo(), flips.state(6), flips.undo(), flips.state(0), flips.undo()), "1 0 0 0 -1");
        Check.same("3: the buffer is as it was", flips.load(20), 1);
    }

    // ---- promise 25

    // "It starts at 0"
    private static void checksumEmpty() {
        CircleFlips flips = new CircleFlips();
        Check.same("25: without points", flips.checksum(), 0);
        flips.mend(1);
        Check.load(flips, "plane;!");
        flips.append(1, 2, 3, 4, 5);
        Check.same("25: without state(9), the error and the buffer", flips.checksum(), 0);
        flips.put(0, 0);
        flips.take(0);
        Check.same("25: state(11) is the last but two", flips.checksum(), 31 * 31);
        Check.same("25: one point", Check.loaded("plane;at 0 0;").checksum(), summed("plane;at 0 0;").longValue());
    }

    // "wrapping around on overflow of a long"
    private static void checksumWraps() {
        StringBuilder text = new StringBuilder("plane;");
        int negative = 0;
        for (int p = 0; p < 20; p++) {
            text.append("at ").append(p * 77 % 201).append(' ').append(p * 31 % 199).append(';');
            long sum = Check.loaded(text.toString()).checksum();
            Check.same("25: with " + (p + 1) + " points", sum, summed(text.toString()).longValue());
            negative += sum < 0 ? 1 : 0;
        }
        Check.same("25: longer than a long", summed(text.toString()).bitLength() > 64, true);
        Check.same("25: below 0 and above", negative > 0 && negative < 20, true);
    }

    /** All numbers in their order, without any wrapping, and few of them asked of one object. */
    private static BigInteger summed(String text) {
        CircleFlips flips = Check.loaded(text);
        BigInteger sum = BigInteger.ZERO;
        for (int what = 0; what <= 11; what++) {
            sum = what == 9 ? sum : next(sum, flips.state(what));
        }
        for (int p = 0; p < flips.state(0); p++) {
            for (int what = 0; what <= 6; what++) {
                sum = next(sum, flips.point(p, what));
            }
        }
        sum = withTriangles(sum, Check.loaded(text), false);
        sum = withTriangles(sum, Check.loaded(text), true);
        return next(next(sum, flips.lift()), flips.tree());
    }

    private static BigInteger withTriangles(BigInteger before, CircleFlips flips, boolean isDue) {
        BigInteger sum = before;
        int count = flips.state(isDue ? 5 : 1);
        for (int t = 0; t < count; t++) {
            for (int what = 0; what <= 6; what++) {
                sum = next(sum, flips.triangle(t, isDue, what));
            }
        }
        return sum;
    }

    private static BigInteger next(BigInteger sum, long number) {
        return sum.multiply(BigInteger.valueOf(31)).add(BigInteger.valueOf(number));
    }

    private static void checksumParts() {
        String bent = RHOMBUS + "flip 2 3;";
        CircleFlips flips = Check.loaded(bent);
        Check.same("25: the drawing, then the due ones", flips.checksum(), summed(bent).longValue());
        long before = flips.checksum();
        Check.same("25: asking changes nothing", flips.checksum(), before);
        flips.flip(0, 1);
        Check.same("25: a flip more", flips.checksum(), summed(bent + "flip 1 0;").longValue());
        flips.flip(2, 3);
        Check.same("25: the same drawing, with two flips more", flips.checksum() - before, checksumOfFlips(flips, 2));
        flips.mend(1);
        flips.mend(1);
        Check.same("25: without state(9)", flips.checksum(), summed(bent + "flip 0 1;flip 3 2;flip 1 0;").longValue());
    }

    // "An object is used for at most 512 calls after it has been made"
    private static void manyCalls() {
        CircleFlips flips = new CircleFlips();
        for (int i = 0; i < 170; i++) {
            Check.same("19: call " + 3 * i, flips.put(i, 200 - i), i == 0 ? 0 : 1);
            Check.same("24: call " + (3 * i + 1), flips.state(9), Math.min(Math.max(1, 2 * i), 8));
            if (i > 0) {
                Check.same("20: call " + (3 * i + 2), flips.take(0), 0);
            }
        }
        Check.same("19: the last two calls", Check.row(flips.state(11), flips.point(0, 0)), "170 169");
    }
}
