/** Promises 19 to 25: put, take, move, flip, mend, undo and the checksum. */
public final class ChangeTests {
    private static final String SQUARE = "plane;at 0 0 4 0 4 4 0 4;";
    private static final String RHOMBUS = "plane;at 0 5 20 5 10 0 10 10;";
    private static final int[] FAR = {-1, 201, Integer.MIN_VALUE, Integer.MAX_VALUE};

    public static void main(String[] args) {
        put();
        take();
        move();
        flip();
        mend();
        mendOrder();
        undo();
        undoFinal();
        mostTriangles();
        checksum();
        Check.close("ChangeTests");
    }

    // Promise 19
    private static void put() {
        CircleFlips flips = Check.loaded(RHOMBUS);
        flips.flip(2, 3);
        Check.same("19: the index", flips.put(200, 200), 4);
        Check.same("19: the place", Check.row(flips.point(4, 0), flips.point(4, 1)), "200 200");
        Check.same("19: the drawing is made anew", Check.row(flips.state(4), flips.state(6)), "0 0");
        Check.same("19: counted", Check.row(flips.state(9), flips.state(10), flips.state(11)), "3 1 1");
        Check.same("19: a corner of the plane", flips.put(0, 0), 5);
        Check.refused("19: a place that is taken", flips, () -> flips.put(10, 10));
        for (int far : FAR) {
            Check.illegal("19: put(" + far + ", 0)", flips, () -> flips.put(far, 0));
            Check.illegal("19: put(0, " + far + ")", flips, () -> flips.put(0, far));
        }
        for (int i = 6; i < 20; i++) {
            Check.same("19: up to 20", flips.put(i, 150), i);
        }
        Check.refused("19: a 21st", flips, () -> flips.put(99, 99));
        Check.illegal("19: a 21st, out of range", flips, () -> flips.put(99, 201));
        Check.same("19: 20 are kept", flips.state(0), 20);
    }

    // Promise 20
    private static void take() {
        CircleFlips flips = Check.loaded("plane;at 0 0 4 0 2 1 4 4 0 4;");
        Check.same("20: the due triangles then", flips.take(2), 2);
        Check.same("20: less by 1 behind it", Check.row(flips.point(1, 0), flips.point(2, 0), flips.point(2, 1), flips.point(3, 1)), "4 4 4 4");
        Check.same("20: as the square", flips.checksum(), Check.loaded(SQUARE).checksum());
        Check.same("20: a change", flips.state(9), 2);
        flips.flip(0, 2);
        Check.same("20: the first", flips.take(0), 1);
        Check.same("20: the last", flips.take(2), 0);
        Check.same("20: on", flips.take(1), 0);
        Check.same("20: the place that is left", Check.row(flips.point(0, 0), flips.point(0, 1)), "4 0");
        Check.outside("20: take(1) of one", flips, () -> flips.take(1));
        Check.same("20: the only one", flips.take(0), 0);
        Check.outside("20: take(0) of none", flips, () -> flips.take(0));
        for (int p : new int[] {-1, 4, Integer.MIN_VALUE, Integer.MAX_VALUE}) {
            CircleFlips square = Check.loaded(SQUARE);
            Check.outside("20: take(" + p + ")", square, () -> square.take(p));
        }
        flips.put(5, 5);
        flips.take(0);
        Check.same("20: a point that was put stays counted", flips.state(11), 1);
    }

    // Promise 21
    private static void move() {
        CircleFlips flips = Check.loaded(SQUARE);
        Check.same("21: two new triangles", flips.move(2, 5, 5), 2);
        Check.same("21: the place", Check.row(flips.point(2, 0), flips.point(2, 1)), "5 5");
        Check.same("21: the same points at other places are not new", flips.move(2, 6, 6), 0);
        Check.same("21: one new", Check.loaded("plane;at 0 0 4 0 9 0;").move(2, 9, 9), 1);
        flips.flip(1, 3);
        Check.same("21: to its own place", flips.move(2, 6, 6), 0);
        Check.same("21: that makes the drawing anew", flips.state(6), 0);
        Check.same("21: and is a change", flips.state(9), 5);
        Check.refused("21: another one is there", flips, () -> flips.move(2, 0, 4));
        Check.refused("21: the first one is there", flips, () -> flips.move(3, 0, 0));
        for (int far : FAR) {
            Check.illegal("21: move(0, " + far + ", 0)", flips, () -> flips.move(0, far, 0));
            Check.illegal("21: move(0, 4, " + far + ")", flips, () -> flips.move(0, 4, far));
            int p = far == 201 ? 4 : far;
            Check.outside("21: move(" + p + ", 500, 0)", flips, () -> flips.move(p, 500, 0));
            Check.outside("21: move(" + p + ", 0, 0)", flips, () -> flips.move(p, 0, 0));
        }
    }

    // Promise 22
    private static void flip() {
        CircleFlips flips = Check.loaded(RHOMBUS);
        Check.same("22: the new edge", flips.flip(3, 2), 1);
        Check.same("22: the triangles", Check.row(flips.triangle(0, false, 2), flips.triangle(1, false, 2), flips.state(1)), "2 3 2");
        Check.same("22: back", flips.flip(0, 1), 203);
        Check.same("22: counted", Check.row(flips.state(9), flips.state(10)), "3 2");
        Check.refused("22: border", flips, () -> flips.flip(0, 2));
        Check.refused("22: no edge", flips, () -> flips.flip(0, 1));
        Check.refused("22: one point", flips, () -> flips.flip(1, 1));
        CircleFlips bent = Check.loaded("plane;at 0 0 8 0 2 2 0 8;");
        Check.refused("22: a bend inwards", bent, () -> bent.flip(0, 2));
        for (int p : new int[] {-1, 4, Integer.MIN_VALUE, Integer.MAX_VALUE}) {
            Check.outside("22: flip(" + p + ", 0)", flips, () -> flips.flip(p, 0));
            Check.outside("22: flip(0, " + p + ")", flips, () -> flips.flip(0, p));
        }
    }

    // Promise 23
    private static void mend() {
        CircleFlips flips = Check.loaded(RHOMBUS);
        flips.flip(2, 3);
        for (int most : new int[] {0, -1, 501, Integer.MIN_VALUE, Integer.MAX_VALUE}) {
            Check.illegal("23: mend(" + most + ")", flips, () -> flips.mend(most));
        }
        Check.same("23: one", flips.mend(500), 1);
        Check.same("23: counted", Check.row(flips.state(4), flips.state(9), flips.state(10)), "0 3 2");
        Check.same("23: none", flips.mend(1), 0);
        Check.same("23: also a change", flips.state(9), 4);
        Check.same("23: no points", new CircleFlips().mend(1), 0);
    }

    /** Edges of a crowd are flipped one by one, and mended one by one or at once. */
    private static void mendOrder() {
        String crowd = "plane;at 20 3 60 0 90 40 71 80 30 91 3 50 40 40 55 61 33 17 70 25;";
        CircleFlips flips = Check.loaded(crowd);
        CircleFlips twin = Check.loaded(crowd);
        for (int p = 0; p < 10; p++) {
            for (int q = p + 1; q < 10; q++) {
                if (flips.why(p, q) == 0 && (p + q) % 2 == 0) {
                    flips.flip(p, q);
                    twin.flip(p, q);
                }
            }
        }
        Check.same("23: some edges are bad", flips.state(4) > 1, true);
        int before = flips.state(10);
        int mended = 0;
        while (flips.state(4) > 0 && mended < 100) {
            int edge = flips.badEdge();
            long lift = flips.lift();
            twin.flip(edge / 100, edge % 100);
            Check.same("23: one at most", flips.mend(1), 1);
            Check.same("23: the one that badEdge() told", flips.checksum(), twin.checksum());
            Check.same("14: less with each", flips.lift() < lift, true);
            mended++;
        }
        Check.same("23: flips", flips.state(10) - before, mended);
        Check.same("23: as the due ones", flips.state(6), 0);
    }

    // Promise 24
    private static void undo() {
        CircleFlips flips = new CircleFlips();
        Check.same("24: nothing", flips.undo(), -1);
        long[] sums = new long[6];
        Check.load(flips, SQUARE + "flip 0 2;");
        sums[0] = flips.checksum();
        flips.put(2, 1);
        sums[1] = flips.checksum();
        flips.flip(2, 4);
        sums[2] = flips.checksum();
        flips.mend(3);
        sums[3] = flips.checksum();
        flips.move(4, 3, 1);
        sums[4] = flips.checksum();
        flips.take(1);
        sums[5] = flips.checksum();
        Check.append(flips, "plane;");
        for (int left = 5; left >= 1; left--) {
            Check.same("24: undo", flips.undo(), left);
            Check.same("24: as before the change", flips.checksum(), sums[left - 1]);
            Check.same("24: counted", flips.state(9), left);
        }
        Check.same("24: the first load", flips.undo(), 0);
        Check.same("24: as a new one", flips.checksum(), new CircleFlips().checksum());
        Check.same("24: no more", flips.undo(), -1);
        Check.same("24: the buffer is as it was", flips.load(6), 0);
    }

    private static void undoFinal() {
        CircleFlips flips = new CircleFlips();
        for (int i = 0; i < 11; i++) {
            flips.put(i, i * i % 7);
            Check.same("24: at most 8", flips.state(9), Math.min(i + 1, 8));
        }
        Check.same("24: undo", Check.row(flips.undo(), flips.undo()), "7 6");
        flips.put(50, 50);
        flips.mend(1);
        flips.put(60, 50);
        Check.same("24: filled again", flips.state(9), 8);
        for (int left = 7; left >= 0; left--) {
            Check.same("24: undo", flips.undo(), left);
        }
        Check.same("24: what is final stays", Check.row(flips.state(0), flips.undo()), "4 -1");
        Check.refused("24: a call that throws is no change", flips, () -> flips.put(0, 0));
    }

    /** As many triangles as 20 points can have, put, flipped, mended and undone. */
    private static void mostTriangles() {
        CircleFlips flips = Check.loaded("plane;at 0 0 200 0 100 200;");
        for (int i = 3; i < 20; i++) {
            Check.same("19: a crowd", flips.put(60 + i * 37 % 80, 5 + i * 53 % 89), i);
        }
        Check.same("19: the most triangles", Check.row(flips.state(1), flips.state(2), flips.state(3), flips.state(5)), "35 54 3 35");
        int flipped = 0;
        for (int q = 19; q > 0; q--) {
            for (int p = 0; p < q; p++) {
                if (flips.why(p, q) == 0) {
                    flips.flip(p, q);
                    flipped++;
                }
            }
        }
        Check.same("22: all that can be flipped", Check.row(flips.state(1), flips.state(2), flips.state(10)), "35 54 " + flipped);
        int mended = flips.mend(500);
        Check.same("23: at once", Check.row(flips.state(4), flips.state(6), flips.state(10)), "0 0 " + (flipped + mended));
        flips.undo();
        Check.same("24: bad edges again", flips.state(4) > 0, true);
        Check.same("23: all the same", flips.mend(500), mended);
        flips.move(19, flips.point(19, 0), flips.point(19, 1));
        Check.same("21: and the drawing", flips.state(6), 0);
    }

    // Promise 25
    private static void checksum() {
        Check.same("25: none", new CircleFlips().checksum(), 0L);
        CircleFlips one = Check.loaded("plane;at 2 3;");
        long sum = 0;
        for (int n : new int[] {1, 0, 0, 0, 0, 0, 0, 1, 1, 0, 0, 2, 3, 0, 0, 0, 0, -1, 0, 0}) {
            sum = 31 * sum + n;
        }
        Check.same("25: one point", one.checksum(), sum);
        CircleFlips flips = Check.loaded(RHOMBUS);
        flips.flip(2, 3);
        Check.same("25: all numbers in their order", flips.checksum(), summed(flips));
        flips.mend(1);
        long mended = flips.checksum();
        flips.mend(1);
        Check.same("25: without state(9)", flips.checksum(), mended);
    }

    private static long summed(CircleFlips flips) {
        long sum = 0;
        for (int what : new int[] {0, 1, 2, 3, 4, 5, 6, 7, 8, 10, 11}) {
            sum = 31 * sum + flips.state(what);
        }
        for (int p = 0; p < flips.state(0); p++) {
            for (int what = 0; what < 7; what++) {
                sum = 31 * sum + flips.point(p, what);
            }
        }
        for (int t = 0; t < flips.state(1); t++) {
            for (int what = 0; what < 7; what++) {
                sum = 31 * sum + flips.triangle(t, false, what);
            }
        }
        for (int t = 0; t < flips.state(5); t++) {
            for (int what = 0; what < 7; what++) {
                sum = 31 * sum + flips.triangle(t, true, what);
            }
        }
        return 31 * (31 * sum + flips.lift()) + flips.tree();
    }
}
