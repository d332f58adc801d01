import java.util.ArrayDeque;
import java.util.ArrayList;
import java.util.Arrays;
import java.util.Deque;
import java.util.HashSet;
import java.util.List;
import java.util.NoSuchElementException;
import java.util.Set;
import java.util.TreeSet;

/**
 * The document once more, word by word and by other ways than the program's: centres of circles as
 * fractions instead of determinants, corners by their definition, the tree by sorted edges.
 */
final class Model {
    static final class Data {
        final List<int[]> places = new ArrayList<>();
        TreeSet<Integer> drawing = new TreeSet<>();
        int flips;
        int puts;

        Data copy() {
            Data twin = new Data();
            for (int[] place : places) {
                twin.places.add(place.clone());
            }
            twin.drawing = new TreeSet<>(drawing);
            twin.flips = flips;
            twin.puts = puts;
            return twin;
        }
    }

    Data now = new Data();
    final Deque<Data> past = new ArrayDeque<>();
    final StringBuilder buffer = new StringBuilder();
    int errorOffset = -1;

    // ---- places

    static long turn(int[] a, int[] b, int[] c) {
        return (long) (b[0] - a[0]) * (c[1] - a[1]) - (long) (b[1] - a[1]) * (c[0] - a[0]);
    }

    static long squares(int[] a, int[] b) {
        return (long) (a[0] - b[0]) * (a[0] - b[0]) + (long) (a[1] - b[1]) * (a[1] - b[1]);
    }

    /** 1 nearer to the centre of the circle of a, b, c than they are, 0 as near, -1 farther. */
    static int nearer(int[] a, int[] b, int[] c, int[] d) {
        long under = 2 * turn(a, b, c);
        long[] centre = {over(a, b, c, true), over(a, b, c, false)};
        long own = square(under * a[0] - centre[0]) + square(under * a[1] - centre[1]);
        long other = square(under * d[0] - centre[0]) + square(under * d[1] - centre[1]);
        return Long.compare(own, other);
    }

    static long square(long n) {
        return n * n;
    }

    static long over(int[] a, int[] b, int[] c, boolean isX) {
        long la = a[0] * a[0] + a[1] * a[1];
        long lb = b[0] * b[0] + b[1] * b[1];
        long lc = c[0] * c[0] + c[1] * c[1];
        return isX
                ? la * (b[1] - c[1]) + lb * (c[1] - a[1]) + lc * (a[1] - b[1])
                : la * (c[0] - b[0]) + lb * (a[0] - c[0]) + lc * (b[0] - a[0]);
    }

    int[] place(int p) {
        return now.places.get(p);
    }

    int count() {
        return now.places.size();
    }

    // ---- triangles, each as 10000 * a + 100 * b + c

    static int[] pointsOf(int triangle) {
        return new int[] {triangle / 10000, triangle / 100 % 100, triangle % 100};
    }

    static int triangleOf(int p, int q, int r) {
        int[] all = {p, q, r};
        Arrays.sort(all);
        return 10000 * all[0] + 100 * all[1] + all[2];
    }

    TreeSet<Integer> due() {
        TreeSet<Integer> due = new TreeSet<>();
        for (int a = 0; a < count(); a++) {
            for (int b = a + 1; b < count(); b++) {
                for (int c = b + 1; c < count(); c++) {
                    if (isDue(a, b, c)) {
                        due.add(triangleOf(a, b, c));
                    }
                }
            }
        }
        return due;
    }

    private boolean isDue(int a, int b, int c) {
        if (turn(place(a), place(b), place(c)) == 0) {
            return false;
        }
        for (int d = 0; d < count(); d++) {
            int side = nearer(place(a), place(b), place(c), place(d));
            if (side > 0 || side == 0 && d < a) {
                return false;
            }
            boolean isOther = d != a && d != b && d != c;
            if (side == 0 && isOther && (turn(place(b), place(c), place(d)) > 0) != (turn(place(b), place(c), place(a)) > 0)) {
                return false;
            }
        }
        return true;
    }

    static List<Integer> thirds(Set<Integer> triangles, int p, int q) {
        List<Integer> thirds = new ArrayList<>();
        for (int triangle : triangles) {
            List<Integer> points = new ArrayList<>();
            for (int point : pointsOf(triangle)) {
                points.add(point);
            }
            if (p != q && points.remove((Integer) p) && points.remove((Integer) q)) {
                thirds.add(points.get(0));
            }
        }
        return thirds;
    }

    /** The edges of triangles, each as 100 * the smaller point + the greater one. */
    static TreeSet<Integer> edges(Set<Integer> triangles) {
        TreeSet<Integer> edges = new TreeSet<>();
        for (int triangle : triangles) {
            int[] points = pointsOf(triangle);
            edges.add(100 * points[0] + points[1]);
            edges.add(100 * points[0] + points[2]);
            edges.add(100 * points[1] + points[2]);
        }
        return edges;
    }

    TreeSet<Integer> badEdges() {
        TreeSet<Integer> bad = new TreeSet<>();
        for (int edge : edges(now.drawing)) {
            List<Integer> thirds = thirds(now.drawing, edge / 100, edge % 100);
            if (thirds.size() == 2 && nearer(place(edge / 100), place(edge % 100),
                    place(thirds.get(0)), place(thirds.get(1))) > 0) {
                bad.add(edge);
            }
        }
        return bad;
    }

    // ---- hulls

    private boolean isBetween(int p, int q, int r) {
        int[] a = place(q);
        int[] b = place(r);
        int[] d = place(p);
        return turn(a, b, d) == 0
                && Math.min(a[0], b[0]) <= d[0] && d[0] <= Math.max(a[0], b[0])
                && Math.min(a[1], b[1]) <= d[1] && d[1] <= Math.max(a[1], b[1]);
    }

    static boolean isInside(int[] a, int[] b, int[] c, int[] d) {
        int left = 0;
        int right = 0;
        for (long turn : new long[] {turn(a, b, d), turn(b, c, d), turn(c, a, d)}) {
            left += turn > 0 ? 1 : 0;
            right += turn < 0 ? 1 : 0;
        }
        return left == 0 || right == 0;
    }

    private boolean isCorner(int p, List<Integer> all) {
        for (int q : all) {
            for (int r : all) {
                if (q < r && q != p && r != p && isBetween(p, q, r)) {
                    return false;
                }
                for (int s : all) {
                    if (q < r && r < s && q != p && r != p && s != p
                            && turn(place(q), place(r), place(s)) != 0
                            && isInside(place(q), place(r), place(s), place(p))) {
                        return false;
                    }
                }
            }
        }
        return true;
    }

    List<List<Integer>> layers() {
        List<Integer> left = new ArrayList<>();
        for (int p = 0; p < count(); p++) {
            left.add(p);
        }
        List<List<Integer>> layers = new ArrayList<>();
        while (!left.isEmpty()) {
            List<Integer> corners = new ArrayList<>();
            for (int p : left) {
                if (isCorner(p, left)) {
                    corners.add(p);
                }
            }
            left.removeAll(corners);
            layers.add(corners);
        }
        return layers;
    }

    int layerOf(int p) {
        List<List<Integer>> layers = layers();
        for (int i = 0; i < layers.size(); i++) {
            if (layers.get(i).contains(p)) {
                return i;
            }
        }
        throw new AssertionError("in no layer");
    }

    int corner(int place) {
        List<List<Integer>> layers = layers();
        if (layers.isEmpty() || place < 0 || place >= layers.get(0).size()) {
            throw new NoSuchElementException();
        }
        int corner = layers.get(0).get(0);
        for (int i = 0; i < place; i++) {
            for (int next : layers.get(0)) {
                boolean isNext = next != corner;
                for (int other : layers.get(0)) {
                    isNext = isNext && turn(place(corner), place(next), place(other)) >= 0;
                }
                if (isNext) {
                    corner = next;
                    break;
                }
            }
        }
        return corner;
    }

    // ---- what is asked

    void needPoint(int p) {
        if (p < 0 || p >= count()) {
            throw new IndexOutOfBoundsException();
        }
    }

    static void needRange(int n, int least, int most) {
        if (n < least || n > most) {
            throw new IllegalArgumentException();
        }
    }

    int state(int what) {
        needRange(what, 0, 11);
        switch (what) {
            case 0: return count();
            case 1: return now.drawing.size();
            case 2: return edges(now.drawing).size();
            case 3: {
                int border = 0;
                for (int edge : edges(now.drawing)) {
                    border += thirds(now.drawing, edge / 100, edge % 100).size() == 1 ? 1 : 0;
                }
                return border;
            }
            case 4: return badEdges().size();
            case 5: return due().size();
            case 6: {
                Set<Integer> edges = edges(now.drawing);
                edges.removeAll(edges(due()));
                return edges.size();
            }
            case 7: return count() == 0 ? 0 : layers().get(0).size();
            case 8: return layers().size();
            case 9: return past.size();
            case 10: return now.flips;
            default: return now.puts;
        }
    }

    int point(int p, int what) {
        needPoint(p);
        needRange(what, 0, 6);
        if (what < 2) {
            return place(p)[what];
        }
        if (what == 4) {
            return layerOf(p);
        }
        if (what == 6) {
            int best = -1;
            for (int q = count() - 1; q >= 0; q--) {
                if (q != p && (best < 0 || squares(place(p), place(q)) <= squares(place(p), place(best)))) {
                    best = q;
                }
            }
            return best;
        }
        int degree = 0;
        int set = 0;
        for (int edge : edges(what == 3 ? due() : now.drawing)) {
            if (edge / 100 == p || edge % 100 == p) {
                degree++;
                set += 1 << (edge / 100 + edge % 100 - p);
            }
        }
        return what == 5 ? set : degree;
    }

    private static int triangleAt(Set<Integer> triangles, int index) {
        if (index < 0 || index >= triangles.size()) {
            throw new IndexOutOfBoundsException();
        }
        return new ArrayList<>(triangles).get(index);
    }

    int triangle(int index, boolean isDue, int what) {
        TreeSet<Integer> all = isDue ? due() : now.drawing;
        int[] points = pointsOf(triangleAt(all, index));
        needRange(what, 0, 6);
        if (what < 3) {
            return points[what];
        }
        int[] a = place(points[0]);
        int[] b = place(points[1]);
        int[] c = place(points[2]);
        if (what == 3) {
            return (int) Math.abs(turn(a, b, c));
        }
        int found = 0;
        if (what == 6) {
            for (int other : all) {
                Set<Integer> common = edges(Set.of(other));
                common.retainAll(edges(Set.of(triangleOf(points[0], points[1], points[2]))));
                found += common.size() == 1 ? 1 : 0;
            }
            return found;
        }
        for (int[] d : now.places) {
            found += nearer(a, b, c, d) == (what == 4 ? 1 : 0) ? 1 : 0;
        }
        return what == 4 ? found : found - 3;
    }

    int circle(int p, int q, int r, int s) {
        needPoint(p);
        needPoint(q);
        needPoint(r);
        needPoint(s);
        return turn(place(p), place(q), place(r)) == 0 ? 2 : nearer(place(p), place(q), place(r), place(s));
    }

    int why(int p, int q) {
        needPoint(p);
        needPoint(q);
        List<Integer> thirds = thirds(now.drawing, p, q);
        if (thirds.size() < 2) {
            return thirds.isEmpty() ? 1 : 2;
        }
        long atP = turn(place(thirds.get(0)), place(thirds.get(1)), place(p));
        long atQ = turn(place(thirds.get(0)), place(thirds.get(1)), place(q));
        return atP == 0 || atQ == 0 || (atP > 0) == (atQ > 0) ? 3 : 0;
    }

    int badEdge() {
        if (badEdges().isEmpty()) {
            throw new NoSuchElementException();
        }
        return badEdges().first();
    }

    int at(int x, int y) {
        needRange(x, -1000, 1000);
        needRange(y, -1000, 1000);
        int index = 0;
        for (int triangle : now.drawing) {
            int[] points = pointsOf(triangle);
            if (isInside(place(points[0]), place(points[1]), place(points[2]), new int[] {x, y})) {
                return index;
            }
            index++;
        }
        return -1;
    }

    int hit(int x, int y) {
        needRange(x, -1000, 1000);
        needRange(y, -1000, 1000);
        int hits = 0;
        for (int triangle : due()) {
            int[] points = pointsOf(triangle);
            hits += nearer(place(points[0]), place(points[1]), place(points[2]), new int[] {x, y}) > 0 ? 1 : 0;
        }
        return hits;
    }

    long lift() {
        long sum = 0;
        for (int triangle : now.drawing) {
            int[] points = pointsOf(triangle);
            long height = 0;
            for (int p : points) {
                height += squares(place(p), new int[] {0, 0});
            }
            sum += Math.abs(turn(place(points[0]), place(points[1]), place(points[2]))) * height;
        }
        return sum;
    }

    long tree() {
        List<long[]> edges = new ArrayList<>();
        for (int p = 0; p < count(); p++) {
            for (int q = 0; q < p; q++) {
                edges.add(new long[] {squares(place(p), place(q)), p, q});
            }
        }
        edges.sort((e, f) -> Long.compare(e[0], f[0]));
        int[] group = new int[count()];
        for (int p = 0; p < group.length; p++) {
            group[p] = p;
        }
        long sum = 0;
        for (long[] edge : edges) {
            int from = group[(int) edge[1]];
            int to = group[(int) edge[2]];
            sum += from == to ? 0 : edge[0];
            for (int p = 0; p < group.length; p++) {
                group[p] = group[p] == from ? to : group[p];
            }
        }
        return sum;
    }

    double centre(int index, boolean isX) {
        int[] points = pointsOf(triangleAt(due(), index));
        int[] a = place(points[0]);
        int[] b = place(points[1]);
        int[] c = place(points[2]);
        return (double) over(a, b, c, isX) / (2.0 * (double) turn(a, b, c));
    }

    int roundness(int index) {
        int[] points = pointsOf(triangleAt(now.drawing, index));
        int[] a = place(points[0]);
        int[] b = place(points[1]);
        int[] c = place(points[2]);
        return Float.floatToIntBits((float) Math.abs(turn(a, b, c))
                / (float) (squares(a, b) + squares(b, c) + squares(c, a)));
    }

    float share() {
        return count() == 0 ? 0 : (float) edges(now.drawing).size() / (float) count();
    }

    // ---- changes

    private void remember() {
        past.addLast(now.copy());
        if (past.size() > 8) {
            past.removeFirst();
        }
    }

    private int find(int x, int y) {
        for (int p = 0; p < count(); p++) {
            if (place(p)[0] == x && place(p)[1] == y) {
                return p;
            }
        }
        return -1;
    }

    int put(int x, int y) {
        needRange(x, 0, 200);
        needRange(y, 0, 200);
        if (count() == 20 || find(x, y) >= 0) {
            throw new IllegalStateException();
        }
        remember();
        now.places.add(new int[] {x, y});
        now.puts++;
        now.drawing = due();
        return count() - 1;
    }

    int take(int p) {
        needPoint(p);
        remember();
        now.places.remove(p);
        now.drawing = due();
        return now.drawing.size();
    }

    int move(int p, int x, int y) {
        needPoint(p);
        needRange(x, 0, 200);
        needRange(y, 0, 200);
        if (find(x, y) >= 0 && find(x, y) != p) {
            throw new IllegalStateException();
        }
        remember();
        Set<Integer> before = due();
        now.places.set(p, new int[] {x, y});
        now.drawing = due();
        Set<Integer> fresh = new HashSet<>(now.drawing);
        fresh.removeAll(before);
        return fresh.size();
    }

    private int flipNow(int p, int q) {
        List<Integer> thirds = thirds(now.drawing, p, q);
        int c = Math.min(thirds.get(0), thirds.get(1));
        int d = Math.max(thirds.get(0), thirds.get(1));
        now.drawing.removeAll(Set.of(triangleOf(p, q, c), triangleOf(p, q, d)));
        now.drawing.addAll(Set.of(triangleOf(p, c, d), triangleOf(q, c, d)));
        now.flips++;
        return 100 * c + d;
    }

    int flip(int p, int q) {
        if (why(p, q) != 0) {
            throw new IllegalStateException();
        }
        remember();
        return flipNow(p, q);
    }

    int mend(int most) {
        needRange(most, 1, 500);
        remember();
        int flipped = 0;
        while (flipped < most && !badEdges().isEmpty()) {
            int edge = badEdge();
            flipNow(edge / 100, edge % 100);
            flipped++;
        }
        return flipped;
    }

    int undo() {
        if (past.isEmpty()) {
            return -1;
        }
        now = past.removeLast();
        return past.size();
    }

    long checksum() {
        long sum = 0;
        for (int what = 0; what <= 11; what++) {
            sum = what == 9 ? sum : 31 * sum + state(what);
        }
        for (int p = 0; p < count(); p++) {
            for (int what = 0; what <= 6; what++) {
                sum = 31 * sum + point(p, what);
            }
        }
        for (boolean isDue : new boolean[] {false, true}) {
            for (int t = 0; t < (isDue ? due() : now.drawing).size(); t++) {
                for (int what = 0; what <= 6; what++) {
                    sum = 31 * sum + triangle(t, isDue, what);
                }
            }
        }
        return 31 * (31 * sum + lift()) + tree();
    }

    // ---- the buffer and its text

    int append(int... words) {
        if (buffer.length() + 20 > 400) {
            return -1;
        }
        for (int word : words) {
            for (int shift = 24; shift >= 0; shift -= 8) {
                buffer.append((char) (word >>> shift & 255));
            }
        }
        return buffer.length();
    }

    int load(int length) {
        needRange(length, 0, buffer.length());
        String text = buffer.substring(0, length);
        buffer.setLength(0);
        Data kept = now;
        now = new Data();
        int[] error = new ModelReader(this).read(text);
        Data read = now;
        now = kept;
        errorOffset = error[1];
        if (error[0] != 0) {
            return error[0];
        }
        remember();
        now = read;
        return count();
    }

    /** What a text does to a new plane, statement by statement. */
    void readPlace(int x, int y) {
        now.places.add(new int[] {x, y});
        now.drawing = due();
    }

    boolean isTaken(int x, int y) {
        return find(x, y) >= 0;
    }

    void readFlip(int p, int q) {
        flipNow(p, q);
    }
}
