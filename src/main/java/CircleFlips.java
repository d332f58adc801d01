import java.util.NoSuchElementException;

/**
 * Points in the plane, the due triangles between them, and a drawing of triangles whose edges are
 * flipped by hand or mended. See README.md for how it is used.
 */
public final class CircleFlips {
    public static final int SYNTAX_ERROR = -2;
    public static final int OUT_OF_RANGE = -3;
    public static final int TAKEN = -4;
    public static final int TOO_MANY = -5;
    public static final int REFUSED = -6;

    private static final int MOST_POINTS = 20;
    private static final int MOST_TRIANGLES = 2 * MOST_POINTS - 5;
    private static final int GREATEST_PLACE = 200;
    private static final int FARTHEST_ASKED = 1000;
    private static final int MOST_BYTES = 400;
    private static final int BYTES_A_WORD = 4;
    private static final int WORDS_APPENDED = 5;
    private static final int MOST_UNDONE = 8;
    private static final int MOST_MENDED = 500;
    private static final int EDGE_BASE = 100;

    private static final int LAST_OF_STATE = 11;
    private static final int UNDOABLE_OF_STATE = 9;
    private static final int LAST_OF_POINT = 6;
    private static final int LAST_OF_TRIANGLE = 6;

    private final Setup setup;
    private final Plane plane;
    private final Hull hull;
    private final Plane[] past;
    private int changes;
    private int undoable;
    private int offsetOfError;

    public CircleFlips() {
        setup = new Setup();
        plane = new Plane();
        hull = new Hull();
        past = new Plane[MOST_UNDONE];
        for (int i = 0; i < past.length; i++) {
            past[i] = new Plane();
        }
        offsetOfError = -1;
    }

    public int append(int w0, int w1, int w2, int w3, int w4) {
        if (setup.size() + WORDS_APPENDED * BYTES_A_WORD > MOST_BYTES) {
            return -1;
        }
        setup.addWord(w0);
        setup.addWord(w1);
        setup.addWord(w2);
        setup.addWord(w3);
        setup.addWord(w4);
        return setup.size();
    }

    public int load(int length) throws IllegalArgumentException {
        if (length < 0 || length > setup.size()) {
            throw new IllegalArgumentException();
        }
        int error = setup.read(length);
        offsetOfError = setup.offset;
        if (error != 0) {
            return error;
        }
        remember();
        plane.copyFrom(setup.plane);
        hull.renew(plane.points);
        return plane.points.size();
    }

    public int errorOffset() {
        return offsetOfError;
    }

    public int state(int what) throws IllegalArgumentException {
        if (what < 0 || what > LAST_OF_STATE) {
            throw new IllegalArgumentException();
        }
        switch (what) {
            case 0: return plane.points.size();
            case 1: return plane.drawing.size();
            case 2: return plane.drawing.edges();
            case 3: return plane.drawing.edgesOf(1);
            case 4: return plane.badEdges();
            case 5: return plane.due.size();
            case 6: return plane.drawing.edgesBeyond(plane.due);
            case 7: return hull.corners();
            case 8: return hull.layers();
            case 9: return undoable;
            case 10: return plane.flips;
            default: return plane.puts;
        }
    }

    public int point(int point, int what) throws IndexOutOfBoundsException, IllegalArgumentException {
        needPoint(point);
        if (what < 0 || what > LAST_OF_POINT) {
            throw new IllegalArgumentException();
        }
        switch (what) {
            case 0: return plane.points.x(point);
            case 1: return plane.points.y(point);
            case 2: return Integer.bitCount(plane.drawing.joined(point));
            case 3: return Integer.bitCount(plane.due.joined(point));
            case 4: return hull.layerOf(point);
            case 5: return plane.drawing.joined(point);
            default: return plane.points.nearest(point);
        }
    }

    public int triangle(int triangle, boolean isDue, int what)
            throws IndexOutOfBoundsException, IllegalArgumentException {
        Mesh mesh = isDue ? plane.due : plane.drawing;
        needTriangle(mesh, triangle);
        if (what < 0 || what > LAST_OF_TRIANGLE) {
            throw new IllegalArgumentException();
        }
        int a = mesh.a(triangle);
        int b = mesh.b(triangle);
        int c = mesh.c(triangle);
        switch (what) {
            case 0: return a;
            case 1: return b;
            case 2: return c;
            case 3: return Math.abs(plane.points.turn(a, b, c));
            case 4: return plane.points.countCircle(a, b, c, 1);
            case 5: return plane.points.countCircle(a, b, c, 0);
            default: return mesh.beside(triangle);
        }
    }

    public int circle(int p, int q, int r, int s) throws IndexOutOfBoundsException {
        needPoint(p);
        needPoint(q);
        needPoint(r);
        needPoint(s);
        Points points = plane.points;
        if (points.turn(p, q, r) == 0) {
            return 2;
        }
        return points.circleSide(p, q, r, points.x(s), points.y(s));
    }

    public int why(int p, int q) throws IndexOutOfBoundsException {
        needPoint(p);
        needPoint(q);
        return plane.refusal(p, q);
    }

    public int badEdge() throws NoSuchElementException {
        int edge = plane.firstBad();
        if (edge < 0) {
            throw new NoSuchElementException();
        }
        return edge;
    }

    public int at(int x, int y) throws IllegalArgumentException {
        needAsked(x, y);
        Mesh drawing = plane.drawing;
        for (int t = 0; t < drawing.size(); t++) {
            if (plane.points.covers(drawing.a(t), drawing.b(t), drawing.c(t), x, y)) {
                return t;
            }
        }
        return -1;
    }

    public int hit(int x, int y) throws IllegalArgumentException {
        needAsked(x, y);
        Mesh due = plane.due;
        int hits = 0;
        for (int t = 0; t < due.size(); t++) {
            if (plane.points.circleSide(due.a(t), due.b(t), due.c(t), x, y) > 0) {
                hits++;
            }
        }
        return hits;
    }

    public int corner(int place) throws NoSuchElementException {
        if (place < 0 || place >= hull.corners()) {
            throw new NoSuchElementException();
        }
        return hull.cornerAt(place);
    }

    public long lift() {
        Mesh drawing = plane.drawing;
        Points points = plane.points;
        long sum = 0;
        for (int t = 0; t < drawing.size(); t++) {
            int a = drawing.a(t);
            int b = drawing.b(t);
            int c = drawing.c(t);
            long height = points.square(a) + points.square(b) + points.square(c);
            sum += Math.abs(points.turn(a, b, c)) * height;
        }
        return sum;
    }

    public long tree() {
        return plane.points.leastTree();
    }

    public double centre(int triangle, boolean isX) throws IndexOutOfBoundsException {
        Mesh due = plane.due;
        needTriangle(due, triangle);
        Points points = plane.points;
        int a = due.a(triangle);
        int b = due.b(triangle);
        int c = due.c(triangle);
        long la = points.square(a);
        long lb = points.square(b);
        long lc = points.square(c);
        long over;
        if (isX) {
            over = la * (points.y(b) - points.y(c)) + lb * (points.y(c) - points.y(a))
                    + lc * (points.y(a) - points.y(b));
        } else {
            over = la * (points.x(c) - points.x(b)) + lb * (points.x(a) - points.x(c))
                    + lc * (points.x(b) - points.x(a));
        }
        double under = 2.0 * (double) points.turn(a, b, c);
        return under == 0.0 ? 0.0 : (double) over / under;
    }

    public int roundness(int triangle) throws IndexOutOfBoundsException {
        Mesh drawing = plane.drawing;
        needTriangle(drawing, triangle);
        Points points = plane.points;
        int a = drawing.a(triangle);
        int b = drawing.b(triangle);
        int c = drawing.c(triangle);
        int squares = points.distance(a, b) + points.distance(b, c) + points.distance(c, a);
        if (squares == 0) {
            return 0;
        }
        return bitsOf((float) Math.abs(points.turn(a, b, c)) / (float) squares);
    }

    public float share() {
        int count = plane.points.size();
        return count == 0 ? 0.0f : (float) plane.drawing.edges() / (float) count;
    }

    public int put(int x, int y) throws IllegalArgumentException, IllegalStateException {
        needPlace(x, y);
        Points points = plane.points;
        if (points.size() >= MOST_POINTS || points.find(x, y) >= 0) {
            throw new IllegalStateException();
        }
        remember();
        points.add(x, y);
        plane.puts++;
        pointsChanged();
        return points.size() - 1;
    }

    public int take(int point) throws IndexOutOfBoundsException {
        needPoint(point);
        remember();
        plane.points.remove(point);
        pointsChanged();
        return plane.due.size();
    }

    public int move(int point, int x, int y)
            throws IndexOutOfBoundsException, IllegalArgumentException, IllegalStateException {
        needPoint(point);
        needPlace(x, y);
        int found = plane.points.find(x, y);
        if (found >= 0 && found != point) {
            throw new IllegalStateException();
        }
        remember();
        plane.points.set(point, x, y);
        pointsChanged();
        return plane.due.trianglesBeyond(pastOf(changes - 1).due);
    }

    public int flip(int p, int q) throws IndexOutOfBoundsException, IllegalStateException {
        needPoint(p);
        needPoint(q);
        if (plane.refusal(p, q) != 0) {
            throw new IllegalStateException();
        }
        remember();
        return plane.flipEdge(p, q);
    }

    public int mend(int most) throws IllegalArgumentException {
        if (most < 1 || most > MOST_MENDED) {
            throw new IllegalArgumentException();
        }
        remember();
        int flipped = 0;
        int edge = plane.firstBad();
        while (flipped < most && edge >= 0) {
            plane.flipEdge(edge / EDGE_BASE, edge % EDGE_BASE);
            flipped++;
            edge = plane.firstBad();
        }
        return flipped;
    }

    public int undo() {
        if (undoable == 0) {
            return -1;
        }
        undoable--;
        changes--;
        plane.copyFrom(pastOf(changes));
        hull.renew(plane.points);
        return undoable;
    }

    public long checksum() {
        long sum = 0;
        for (int what = 0; what <= LAST_OF_STATE; what++) {
            if (what != UNDOABLE_OF_STATE) {
                sum = 31 * sum + state(what);
            }
        }
        for (int p = 0; p < plane.points.size(); p++) {
            for (int what = 0; what <= LAST_OF_POINT; what++) {
                sum = 31 * sum + point(p, what);
            }
        }
        sum = withTriangles(sum, false);
        sum = withTriangles(sum, true);
        sum = 31 * sum + lift();
        return 31 * sum + tree();
    }

    private long withTriangles(long before, boolean isDue) {
        int count = isDue ? plane.due.size() : plane.drawing.size();
        long sum = before;
        for (int t = 0; t < count; t++) {
            for (int what = 0; what <= LAST_OF_TRIANGLE; what++) {
                sum = 31 * sum + triangle(t, isDue, what);
            }
        }
        return sum;
    }

    private void needPoint(int point) {
        if (point < 0 || point >= plane.points.size()) {
            throw new IndexOutOfBoundsException();
        }
    }

    private void needTriangle(Mesh mesh, int triangle) {
        if (triangle < 0 || triangle >= mesh.size()) {
            throw new IndexOutOfBoundsException();
        }
    }

    private void needPlace(int x, int y) {
        if (x < 0 || x > GREATEST_PLACE || y < 0 || y > GREATEST_PLACE) {
            throw new IllegalArgumentException();
        }
    }

    private void needAsked(int x, int y) {
        if (x < -FARTHEST_ASKED || x > FARTHEST_ASKED || y < -FARTHEST_ASKED || y > FARTHEST_ASKED) {
            throw new IllegalArgumentException();
        }
    }

    private void pointsChanged() {
        plane.renew();
        hull.renew(plane.points);
    }

    /** Keeps what is now, in the place of the change that becomes final by this one. */
    private void remember() {
        pastOf(changes).copyFrom(plane);
        changes++;
        undoable = Math.min(undoable + 1, MOST_UNDONE);
    }

    private Plane pastOf(int change) {
        int slot = Math.floorMod(change, MOST_UNDONE);
        return slot >= 0 && slot < past.length ? past[slot] : plane;
    }

    /** The bits of a normal float below 2 by hand, as the language has no Float.floatToIntBits. */
    private static int bitsOf(float number) {
        float scaled = number;
        int exponent = 127;
        while (scaled < 1.0f && exponent > 1) {
            scaled = scaled * 2.0f;
            exponent--;
        }
        return exponent * 8388608 + (int) ((scaled - 1.0f) * 8388608.0f);
    }

    /** The smallest point of a set of points; MOST_POINTS if there is none. */
    private static int lowest(int set) {
        for (int p = 0; p < MOST_POINTS; p++) {
            if ((set >> p & 1) != 0) {
                return p;
            }
        }
        return MOST_POINTS;
    }

    private static int sign(long number) {
        return number > 0 ? 1 : number < 0 ? -1 : 0;
    }

    /** A row of numbers that tests each index: outside it holds 0, and keeps nothing. */
    private static final class Row {
        private final int[] numbers;

        Row(int length) {
            numbers = new int[Math.max(length, 0)];
        }

        int get(int place) {
            return place >= 0 && place < numbers.length ? numbers[place] : 0;
        }

        void set(int place, int number) {
            if (place >= 0 && place < numbers.length) {
                numbers[place] = number;
            }
        }

        void clear() {
            for (int i = 0; i < numbers.length; i++) {
                numbers[i] = 0;
            }
        }

        void copyFrom(Row other) {
            int length = Math.min(numbers.length, other.numbers.length);
            System.arraycopy(other.numbers, 0, numbers, 0, length);
        }

        /** The numbers from a place on go one place on, up to an end, and a number is put there. */
        void insert(int place, int end, int number) {
            for (int i = Math.min(end, numbers.length - 1); i > place; i--) {
                set(i, get(i - 1));
            }
            set(place, number);
        }

        void remove(int place) {
            for (int i = Math.max(place, 0); i + 1 < numbers.length; i++) {
                set(i, get(i + 1));
            }
        }
    }

    /** The points and what is computed of their places alone. */
    private static final class Points {
        private final Row xs;
        private final Row ys;
        private int count;

        Points() {
            xs = new Row(MOST_POINTS);
            ys = new Row(MOST_POINTS);
        }

        int size() {
            return count;
        }

        int x(int point) {
            return xs.get(point);
        }

        int y(int point) {
            return ys.get(point);
        }

        void clear() {
            count = 0;
        }

        void copyFrom(Points other) {
            xs.copyFrom(other.xs);
            ys.copyFrom(other.ys);
            count = other.count;
        }

        void add(int x, int y) {
            if (count < MOST_POINTS) {
                set(count, x, y);
                count++;
            }
        }

        void set(int point, int x, int y) {
            xs.set(point, x);
            ys.set(point, y);
        }

        void remove(int point) {
            xs.remove(point);
            ys.remove(point);
            count = Math.max(count - 1, 0);
        }

        /** The point at a place; -1 if there is none. */
        int find(int x, int y) {
            for (int p = 0; p < count; p++) {
                if (xs.get(p) == x && ys.get(p) == y) {
                    return p;
                }
            }
            return -1;
        }

        /** An int is enough for all turns, as no place that is asked for lies beyond 1000. */
        int turn(int a, int b, int c) {
            int ax = xs.get(a);
            int ay = ys.get(a);
            return cross(xs.get(b) - ax, ys.get(b) - ay, xs.get(c) - ax, ys.get(c) - ay);
        }

        private int turnTo(int a, int b, int x, int y) {
            int ax = xs.get(a);
            int ay = ys.get(a);
            return cross(xs.get(b) - ax, ys.get(b) - ay, x - ax, y - ay);
        }

        private static int cross(int ux, int uy, int vx, int vy) {
            return ux * vy - uy * vx;
        }

        /** 1 if a place is within the circle of three points that are on no line, 0 on it, -1 outside. */
        int circleSide(int a, int b, int c, int x, int y) {
            long ax = xs.get(a) - x;
            long ay = ys.get(a) - y;
            long bx = xs.get(b) - x;
            long by = ys.get(b) - y;
            long cx = xs.get(c) - x;
            long cy = ys.get(c) - y;
            long la = ax * ax + ay * ay;
            long lb = bx * bx + by * by;
            long lc = cx * cx + cy * cy;
            long determinant = la * (bx * cy - by * cx) - lb * (ax * cy - ay * cx) + lc * (ax * by - ay * bx);
            long turn = (bx - ax) * (cy - ay) - (by - ay) * (cx - ax);
            return sign(determinant * turn);
        }

        /** How many other points are at a side (as of circleSide) of the circle of three points. */
        int countCircle(int a, int b, int c, int side) {
            int found = 0;
            for (int p = 0; p < count; p++) {
                if (p != a && p != b && p != c && circleSide(a, b, c, xs.get(p), ys.get(p)) == side) {
                    found++;
                }
            }
            return found;
        }

        /** Whether a place is within the triangle of three points or on its edges. */
        boolean covers(int a, int b, int c, int x, int y) {
            int first = turnTo(a, b, x, y);
            int second = turnTo(b, c, x, y);
            int third = turnTo(c, a, x, y);
            return first >= 0 && second >= 0 && third >= 0 || first <= 0 && second <= 0 && third <= 0;
        }

        /** The square of the distance of a point from 0. */
        long square(int point) {
            long x = xs.get(point);
            long y = ys.get(point);
            return x * x + y * y;
        }

        /** The square of the distance of two points. */
        int distance(int p, int q) {
            int x = xs.get(p) - xs.get(q);
            int y = ys.get(p) - ys.get(q);
            return x * x + y * y;
        }

        int nearest(int point) {
            int best = -1;
            for (int p = 0; p < count; p++) {
                if (p != point && (best < 0 || distance(point, p) < distance(point, best))) {
                    best = p;
                }
            }
            return best;
        }

        /** The sum of the least tree: the point nearest to what is joined so far comes next. */
        long leastTree() {
            long sum = 0;
            int joined = 1;
            for (int step = 1; step < count; step++) {
                int next = -1;
                int least = 0;
                for (int p = 0; p < count; p++) {
                    int gap = (joined >> p & 1) != 0 ? -1 : gapTo(joined, p);
                    if (gap >= 0 && (next < 0 || gap < least)) {
                        next = p;
                        least = gap;
                    }
                }
                joined |= next < 0 ? 0 : 1 << next;
                sum += least;
            }
            return sum;
        }

        /** The square of the distance of a point from the nearest one of a set; -1 if that is empty. */
        private int gapTo(int set, int point) {
            int least = -1;
            for (int p = 0; p < count; p++) {
                if ((set >> p & 1) != 0 && (least < 0 || distance(point, p) < least)) {
                    least = distance(point, p);
                }
            }
            return least;
        }
    }

    /** Triangles in the order of their points, with the edges that they have. */
    private static final class Mesh {
        private final Row codes;
        private final Row thirds;
        private int count;

        Mesh() {
            codes = new Row(MOST_TRIANGLES);
            thirds = new Row(MOST_POINTS * MOST_POINTS);
        }

        int size() {
            return count;
        }

        int a(int triangle) {
            return codes.get(triangle) / (MOST_POINTS * MOST_POINTS);
        }

        int b(int triangle) {
            return codes.get(triangle) / MOST_POINTS % MOST_POINTS;
        }

        int c(int triangle) {
            return codes.get(triangle) % MOST_POINTS;
        }

        void clear() {
            count = 0;
            thirds.clear();
        }

        void copyFrom(Mesh other) {
            codes.copyFrom(other.codes);
            thirds.copyFrom(other.thirds);
            count = other.count;
        }

        void add(int p, int q, int r) {
            int code = codeOf(p, q, r);
            if (count < MOST_TRIANGLES) {
                codes.insert(placeOf(code), count, code);
                count++;
                changeEdge(p, q, r);
                changeEdge(q, r, p);
                changeEdge(r, p, q);
            }
        }

        void remove(int p, int q, int r) {
            int code = codeOf(p, q, r);
            int place = placeOf(code);
            if (place < count && codes.get(place) == code) {
                codes.remove(place);
                count--;
                changeEdge(p, q, r);
                changeEdge(q, r, p);
                changeEdge(r, p, q);
            }
        }

        /** A triangle as one number, so that the order of these numbers is that of triangles. */
        private static int codeOf(int p, int q, int r) {
            int a = Math.min(p, Math.min(q, r));
            int c = Math.max(p, Math.max(q, r));
            int b = p + q + r - a - c;
            return (a * MOST_POINTS + b) * MOST_POINTS + c;
        }

        /** How many triangles come before a code. */
        private int placeOf(int code) {
            int place = 0;
            while (place < count && codes.get(place) < code) {
                place++;
            }
            return place;
        }

        private boolean holds(int code) {
            int place = placeOf(code);
            return place < count && codes.get(place) == code;
        }

        /** Puts a third point in at an edge, or takes it out if it is there. */
        private void changeEdge(int p, int q, int third) {
            int edge = Math.min(p, q) * MOST_POINTS + Math.max(p, q);
            thirds.set(edge, thirds.get(edge) ^ 1 << third);
        }

        /** The set of the third points of an edge's triangles, empty if there is no such edge. */
        int thirdsOf(int p, int q) {
            return thirds.get(Math.min(p, q) * MOST_POINTS + Math.max(p, q));
        }

        /** The set of the points with which a point has an edge. */
        int joined(int point) {
            int set = 0;
            for (int p = 0; p < MOST_POINTS; p++) {
                if (thirdsOf(point, p) != 0) {
                    set |= 1 << p;
                }
            }
            return set;
        }

        int edges() {
            return edgesOf(1) + edgesOf(2);
        }

        /** How many edges so many triangles have. */
        int edgesOf(int triangles) {
            int found = 0;
            for (int edge = 0; edge < MOST_POINTS * MOST_POINTS; edge++) {
                if (Integer.bitCount(thirds.get(edge)) == triangles) {
                    found++;
                }
            }
            return found;
        }

        /** How many edges are none of the other triangles. */
        int edgesBeyond(Mesh other) {
            int found = 0;
            for (int edge = 0; edge < MOST_POINTS * MOST_POINTS; edge++) {
                if (thirds.get(edge) != 0 && other.thirds.get(edge) == 0) {
                    found++;
                }
            }
            return found;
        }

        /** How many triangles are none of the other ones. */
        int trianglesBeyond(Mesh other) {
            int found = 0;
            for (int t = 0; t < count; t++) {
                if (!other.holds(codes.get(t))) {
                    found++;
                }
            }
            return found;
        }

        /** How many triangles have an edge in common with a triangle. */
        int beside(int triangle) {
            int a = a(triangle);
            int b = b(triangle);
            int c = c(triangle);
            int withItself = Integer.bitCount(thirdsOf(a, b)) + Integer.bitCount(thirdsOf(b, c))
                    + Integer.bitCount(thirdsOf(a, c));
            return withItself - 3;
        }
    }

    /** The layers of points, and the corners of all of them in their order. */
    private static final class Hull {
        private final Row layerRow;
        private final Row ring;
        private int ringSize;
        private int layerCount;

        Hull() {
            layerRow = new Row(MOST_POINTS);
            ring = new Row(MOST_POINTS);
        }

        int corners() {
            return ringSize;
        }

        int layers() {
            return layerCount;
        }

        int layerOf(int point) {
            return layerRow.get(point);
        }

        int cornerAt(int place) {
            int first = 0;
            for (int i = 1; i < ringSize; i++) {
                if (ring.get(i) < ring.get(first)) {
                    first = i;
                }
            }
            return ringSize == 0 ? -1 : ring.get((first + place) % ringSize);
        }

        void renew(Points points) {
            int left = (1 << points.size()) - 1;
            ringSize = 0;
            layerCount = 0;
            while (left != 0 && layerCount < MOST_POINTS) {
                left &= ~peel(points, left);
                layerCount++;
            }
        }

        /** Goes round the corners of a set of points, to the left, and tells the set of them. */
        private int peel(Points points, int set) {
            int start = leftmost(points, set);
            int corner = start;
            int found = 0;
            for (int step = 0; step < points.size(); step++) {
                found |= 1 << corner;
                layerRow.set(corner, layerCount);
                if (layerCount == 0) {
                    ring.set(ringSize, corner);
                    ringSize++;
                }
                corner = nextCorner(points, set, corner);
                if (corner == start) {
                    break;
                }
            }
            return found;
        }

        /** The lowest of the leftmost points of a set, which is sure to be a corner. */
        private static int leftmost(Points points, int set) {
            int best = lowest(set);
            for (int p = best + 1; p < points.size(); p++) {
                int right = points.x(p) - points.x(best);
                if ((set >> p & 1) != 0 && (right < 0 || right == 0 && points.y(p) < points.y(best))) {
                    best = p;
                }
            }
            return best;
        }

        /** The corner behind one: none of the set is at the right of the line to it, nor beyond it. */
        private static int nextCorner(Points points, int set, int corner) {
            int best = corner;
            for (int p = 0; p < points.size(); p++) {
                if ((set >> p & 1) != 0 && p != corner) {
                    int turn = points.turn(corner, best, p);
                    boolean isBeyond = points.distance(corner, p) > points.distance(corner, best);
                    if (turn < 0 || turn == 0 && isBeyond) {
                        best = p;
                    }
                }
            }
            return best;
        }
    }

    /** All that a change may change and that undo brings back. */
    private static final class Plane {
        private final Points points;
        private final Mesh drawing;
        private final Mesh due;
        private int flips;
        private int puts;

        Plane() {
            points = new Points();
            drawing = new Mesh();
            due = new Mesh();
        }

        void clear() {
            points.clear();
            drawing.clear();
            due.clear();
            flips = 0;
            puts = 0;
        }

        void copyFrom(Plane other) {
            points.copyFrom(other.points);
            drawing.copyFrom(other.drawing);
            due.copyFrom(other.due);
            flips = other.flips;
            puts = other.puts;
        }

        /** Finds the due triangles, and makes the drawing of them anew. */
        void renew() {
            due.clear();
            for (int a = 0; a < points.size(); a++) {
                for (int b = a + 1; b < points.size(); b++) {
                    for (int c = b + 1; c < points.size(); c++) {
                        if (isDue(a, b, c)) {
                            due.add(a, b, c);
                        }
                    }
                }
            }
            drawing.copyFrom(due);
        }

        private boolean isDue(int a, int b, int c) {
            int side = sign(points.turn(b, c, a));
            if (side == 0) {
                return false;
            }
            for (int d = 0; d < points.size(); d++) {
                int within = points.circleSide(a, b, c, points.x(d), points.y(d));
                if (within > 0) {
                    return false;
                }
                boolean isOther = within == 0 && d != a && d != b && d != c;
                if (isOther && (d < a || sign(points.turn(b, c, d)) != side)) {
                    return false;
                }
            }
            return true;
        }

        /** The reason for which it is refused to flip an edge; 0 if it is not. */
        int refusal(int p, int q) {
            int thirds = drawing.thirdsOf(p, q);
            if (thirds == 0) {
                return 1;
            }
            if (Integer.bitCount(thirds) != 2) {
                return 2;
            }
            int c = lowest(thirds);
            int d = lowest(thirds & ~(1 << c));
            return sign(points.turn(c, d, p)) * sign(points.turn(c, d, q)) < 0 ? 0 : 3;
        }

        /** Flips an edge that is not refused, and tells the new one. */
        int flipEdge(int p, int q) {
            int thirds = drawing.thirdsOf(p, q);
            int c = lowest(thirds);
            int d = lowest(thirds & ~(1 << c));
            drawing.remove(p, q, c);
            drawing.remove(p, q, d);
            drawing.add(p, c, d);
            drawing.add(q, c, d);
            flips++;
            return EDGE_BASE * c + d;
        }

        private boolean isBad(int p, int q) {
            int thirds = drawing.thirdsOf(p, q);
            if (Integer.bitCount(thirds) != 2) {
                return false;
            }
            int c = lowest(thirds);
            int d = lowest(thirds & ~(1 << c));
            return points.circleSide(p, q, c, points.x(d), points.y(d)) > 0;
        }

        int badEdges() {
            int found = 0;
            for (int p = 0; p < points.size(); p++) {
                for (int q = p + 1; q < points.size(); q++) {
                    if (isBad(p, q)) {
                        found++;
                    }
                }
            }
            return found;
        }

        /** The bad edge that comes first; -1 if none is bad. */
        int firstBad() {
            for (int p = 0; p < points.size(); p++) {
                for (int q = p + 1; q < points.size(); q++) {
                    if (isBad(p, q)) {
                        return EDGE_BASE * p + q;
                    }
                }
            }
            return -1;
        }
    }

    /** The input buffer, and the reading of it as a setup text, into a plane of its own. */
    private static final class Setup {
        private static final int END = 0;
        private static final int SEMICOLON = 1;
        private static final int NUMBER = 2;
        private static final int PLANE = 3;
        private static final int AT = 4;
        private static final int FLIP = 5;
        private static final int OTHER = 6;
        /** Above all numbers that are allowed anywhere, so that a long one stays out of range. */
        private static final int LARGE = 1000;

        private final Row text;
        private final Plane plane;
        private int filled;
        private int length;
        private int next;
        private int kind;
        private int start;
        private int number;
        private int error;
        private int offset;
        private boolean isDrawn;

        Setup() {
            text = new Row(MOST_BYTES);
            plane = new Plane();
        }

        int size() {
            return filled;
        }

        void addWord(int word) {
            for (int shift = 24; shift >= 0; shift -= 8) {
                text.set(filled, word >> shift & 255);
                filled++;
            }
        }

        /** Reads so many bytes and empties the buffer; tells the error, 0 if there is none. */
        int read(int bytes) {
            begin(bytes);
            need(PLANE);
            need(SEMICOLON);
            for (int i = 0; i < MOST_BYTES && error == 0 && kind != END; i++) {
                if (kind == AT && !isDrawn) {
                    readPlaces();
                } else if (kind == FLIP) {
                    draw();
                    readFlip();
                } else {
                    fail(SYNTAX_ERROR);
                }
                need(SEMICOLON);
            }
            draw();
            return error;
        }

        private void begin(int bytes) {
            plane.clear();
            length = bytes;
            filled = 0;
            next = 0;
            error = 0;
            offset = -1;
            isDrawn = false;
            advance();
        }

        /** The first error is kept: tokens are read in their order, so it has the smallest offset. */
        private void fail(int code) {
            if (error == 0) {
                error = code;
                offset = start;
            }
        }

        private void need(int wanted) {
            if (kind != wanted) {
                fail(SYNTAX_ERROR);
            }
            advance();
        }

        private void needNumber(int greatest) {
            if (kind != NUMBER) {
                fail(SYNTAX_ERROR);
            } else if (number > greatest) {
                fail(OUT_OF_RANGE);
            }
        }

        private void readPlaces() {
            advance();
            for (int i = 0; i < MOST_BYTES && error == 0 && (i == 0 || kind == NUMBER); i++) {
                needNumber(GREATEST_PLACE);
                if (plane.points.size() >= MOST_POINTS) {
                    fail(TOO_MANY);
                }
                int x = number;
                advance();
                needNumber(GREATEST_PLACE);
                if (plane.points.find(x, number) >= 0) {
                    fail(TAKEN);
                }
                if (error == 0) {
                    plane.points.add(x, number);
                }
                advance();
            }
        }

        private void readFlip() {
            advance();
            int last = plane.points.size() - 1;
            needNumber(last);
            int p = number;
            advance();
            needNumber(last);
            if (error == 0 && plane.refusal(p, number) != 0) {
                fail(REFUSED);
            }
            if (error == 0) {
                plane.flipEdge(p, number);
            }
            advance();
        }

        /** Makes the drawing once all places are read: no place can stand behind a flip. */
        private void draw() {
            if (error == 0 && !isDrawn) {
                isDrawn = true;
                plane.renew();
            }
        }

        /** Goes to the next token. */
        private void advance() {
            while (next < length && text.get(next) == ' ') {
                next++;
            }
            start = next;
            if (next >= length) {
                kind = END;
            } else if (isDigit(text.get(next))) {
                readNumber();
            } else if (isLetter(text.get(next))) {
                readWord();
            } else {
                kind = text.get(next) == ';' ? SEMICOLON : OTHER;
                next++;
            }
        }

        private void readNumber() {
            kind = NUMBER;
            number = 0;
            while (next < length && isDigit(text.get(next))) {
                number = Math.min(number * 10 + text.get(next) - '0', LARGE);
                next++;
            }
        }

        private void readWord() {
            while (next < length && isLetter(text.get(next))) {
                next++;
            }
            if (isWord("plane")) {
                kind = PLANE;
            } else if (isWord("at")) {
                kind = AT;
            } else {
                kind = isWord("flip") ? FLIP : OTHER;
            }
        }

        /** Whether the word that ends here is a certain one. */
        private boolean isWord(String word) {
            if (next - start != word.length()) {
                return false;
            }
            for (int i = 0; i < word.length(); i++) {
                if (text.get(start + i) != word.charAt(i)) {
                    return false;
                }
            }
            return true;
        }

        private static boolean isDigit(int sign) {
            return sign >= '0' && sign <= '9';
        }

        private static boolean isLetter(int sign) {
            return sign >= 'a' && sign <= 'z';
        }
    }
}
