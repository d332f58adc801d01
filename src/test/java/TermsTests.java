import java.util.ArrayList;
import java.util.Arrays;
import java.util.List;
import java.util.Set;
import java.util.TreeSet;

/** What the document says of all points, triangles and flips ("Terms"), tried on many planes. */
public final class TermsTests {
    /** Far above what the planes here need, and low enough for the 512 calls of one object. */
    private static final int MOST_STEPS = 40;

    public static void main(String[] args) {
        List<String> texts = texts();
        for (String text : texts) {
            dueOrder(text);
            dueCircles(text);
            joinedOnCircle(text);
            area(text);
            edges(text);
            corners(text);
            layers(text);
            flips(text);
            badCanBeFlipped(text);
            mended(text);
            madeAnew(text);
        }
        Check.same("planes", texts.size() > 40, true);
        Check.close("TermsTests");
    }

    /** Planes with many points on one line or one circle, and some with few. */
    private static List<String> texts() {
        List<String> texts = new ArrayList<>();
        texts.add("plane;");
        texts.add("plane;at 5 5;");
        texts.add("plane;at 5 5 0 0;");
        texts.add("plane;at 5 5 0 0 9 9;");
        texts.add("plane;at 0 0 200 0 200 200 0 200;");
        texts.add("plane;at 9 5 8 8 5 9 2 8 1 5 2 2 5 1 8 2 5 5;");
        texts.add("plane;at 100 165 165 100 116 163 163 116 125 160 160 125 84 163 75 40;");
        texts.add("plane;at 0 0 1 0 2 0 3 0 4 0 2 200;");
        texts.add("plane;at 0 0 0 1 0 2 1 0 1 1 1 2 2 0 2 1 2 2;");
        int seed = 7;
        for (int plane = 0; plane < 40; plane++) {
            int side = plane % 4 == 0 ? 201 : 3 + plane % 5;
            Set<String> places = new TreeSet<>();
            StringBuilder text = new StringBuilder("plane;at");
            while (places.size() < 3 + plane % 7) {
                seed = seed * 1103515245 + 12345;
                int x = (seed >>> 16) % side;
                seed = seed * 1103515245 + 12345;
                int y = (seed >>> 16) % side;
                if (places.add(x + " " + y)) {
                    text.append(' ').append(x).append(' ').append(y);
                }
            }
            texts.add(text.append(';').toString());
        }
        return texts;
    }

    /** The points of each triangle. */
    private static int[][] triangles(CircleFlips flips, boolean isDue) {
        int[][] all = new int[flips.state(isDue ? 5 : 1)][3];
        for (int t = 0; t < all.length; t++) {
            for (int i = 0; i < 3; i++) {
                all[t][i] = flips.triangle(t, isDue, i);
            }
        }
        return all;
    }

    private static String name(int... points) {
        int[] sorted = points.clone();
        Arrays.sort(sorted);
        return Check.row(sorted);
    }

    private static Set<String> names(int[][] triangles) {
        Set<String> names = new TreeSet<>();
        for (int[] triangle : triangles) {
            names.add(name(triangle));
        }
        return names;
    }

    private static int[][] places(CircleFlips flips) {
        int[][] places = new int[flips.state(0)][2];
        for (int p = 0; p < places.length; p++) {
            places[p][0] = flips.point(p, 0);
            places[p][1] = flips.point(p, 1);
        }
        return places;
    }

    private static int turn(int[] a, int[] b, int[] c) {
        return (b[0] - a[0]) * (c[1] - a[1]) - (b[1] - a[1]) * (c[0] - a[0]);
    }

    // "told by its points a < b < c"; "Due triangles have indexes from 0 by a, then b, then c."
    private static void dueOrder(String text) {
        int[][] due = triangles(Check.loaded(text), true);
        int before = -1;
        for (int[] t : due) {
            int now = (t[0] * 100 + t[1]) * 100 + t[2];
            Check.same("a < b < c in " + text, t[0] < t[1] && t[1] < t[2], true);
            Check.same("the order of " + text, now > before, true);
            before = now;
        }
    }

    // "if no point is within their circle, no point on it has an index below a"
    private static void dueCircles(String text) {
        CircleFlips flips = Check.loaded(text);
        int points = flips.state(0);
        for (int[] t : triangles(flips, true)) {
            flips = Check.loaded(text);
            for (int p = 0; p < points; p++) {
                int side = flips.circle(t[0], t[1], t[2], p);
                Check.same("the circle of " + name(t) + " and " + p + " in " + text,
                        side < 0 || side == 0 && p >= t[0], true);
            }
        }
    }

    // "So of points on one circle that holds no point the one with the smallest index is joined with all others."
    private static void joinedOnCircle(String text) {
        CircleFlips flips = Check.loaded(text);
        int points = flips.state(0);
        int[][] due = triangles(flips, true);
        for (int[] t : due) {
            flips = Check.loaded(text);
            for (int p = 0; p < points; p++) {
                if (p != t[0] && flips.circle(t[0], t[1], t[2], p) == 0) {
                    Check.same(t[0] + " and " + p + " in " + text, (flips.point(t[0], 5) >> p & 1) != 0, true);
                }
            }
        }
    }

    /** Twice what is inside the corners, by the corners' places. */
    private static int inside(CircleFlips flips) {
        int[][] places = places(flips);
        int corners = flips.state(7);
        int sum = 0;
        for (int place = 2; place < corners; place++) {
            sum += turn(places[flips.corner(0)], places[flips.corner(place - 1)], places[flips.corner(place)]);
        }
        return sum;
    }

    // The due triangles fill what is inside the corners, each place once.
    private static void area(String text) {
        CircleFlips flips = Check.loaded(text);
        int sum = 0;
        for (int t = 0; t < flips.state(5); t++) {
            sum += flips.triangle(t, true, 3);
        }
        Check.same("the area of " + text, sum, inside(flips));
    }

    // "inner if two triangles have it, otherwise it is border"; the edges, with the drawing flipped a bit
    private static void edges(String text) {
        CircleFlips flips = Check.loaded(text);
        int points = flips.state(0);
        flipSome(flips, points, 3);
        int edges = flips.state(2);
        int triangles = flips.state(1);
        Check.same("inner edges twice in " + text, 2 * edges - flips.state(3), 3 * triangles);
        Check.same("the edges of " + text, edges, triangles == 0 ? 0 : triangles + points - 1);
        Check.same("as many triangles as due in " + text, triangles, flips.state(5));
        int ends = 0;
        int beside = 0;
        for (int p = 0; p < points; p++) {
            ends += flips.point(p, 2);
        }
        for (int t = 0; t < triangles; t++) {
            beside += flips.triangle(t, false, 6);
        }
        Check.same("the ends of the edges of " + text, ends, 2 * edges);
        Check.same("the sides of inner edges of " + text, beside, 2 * (edges - flips.state(3)));
    }

    /** Flips the first edges that can be flipped, so many. */
    private static void flipSome(CircleFlips flips, int points, int most) {
        int left = most;
        for (int p = 0; p < points; p++) {
            for (int q = p + 1; q < points && left > 0; q++) {
                if (flips.why(p, q) == 0) {
                    flips.flip(p, q);
                    left--;
                }
            }
        }
    }

    // "not on a line between two others of them, nor within a triangle"; "the inside is at the left"
    private static void corners(String text) {
        CircleFlips flips = Check.loaded(text);
        int[][] places = places(flips);
        int corners = flips.state(7);
        int[] ring = new int[corners];
        for (int place = 0; place < corners; place++) {
            ring[place] = flips.corner(place);
            Check.same("the smallest is first in " + text, ring[0] <= ring[place], true);
            Check.same("the layer of a corner in " + text, flips.point(ring[place], 4), 0);
        }
        for (int place = 0; place < corners && corners > 2; place++) {
            int from = ring[place];
            int to = ring[(place + 1) % corners];
            for (int p = 0; p < places.length; p++) {
                int turn = turn(places[from], places[to], places[p]);
                boolean isCorner = flips.point(p, 4) == 0;
                Check.same(p + " is at the left of " + from + ", " + to + " in " + text,
                        p == from || p == to || turn > 0 || turn == 0 && !isCorner, true);
            }
        }
    }

    // "the corners of all points the layer 0, those of all others the layer 1, and so on": each taken out in turn
    private static void layers(String text) {
        CircleFlips flips = Check.loaded(text);
        int points = flips.state(0);
        String layers = "";
        for (int p = 0; p < points; p++) {
            layers += flips.point(p, 4) + " ";
        }
        int[] peeled = new int[points];
        List<Integer> left = new ArrayList<>();
        for (int p = 0; p < points; p++) {
            left.add(p);
        }
        for (int layer = 0; !left.isEmpty(); layer++) {
            List<Integer> corners = new ArrayList<>();
            for (int place = 0; place < flips.state(7); place++) {
                corners.add(flips.corner(place));
            }
            corners.sort((a, b) -> b - a);
            for (int corner : corners) {
                peeled[left.remove(corner)] = layer;
                flips.take(corner);
            }
        }
        Check.same("the layers of " + text, layers.trim(), Check.row(peeled));
    }

    // "they are replaced by a, c, d and b, c, d"; flipped once more, the edge is as it was
    private static void flips(String text) {
        CircleFlips flips = Check.loaded(text);
        int points = flips.state(0);
        int[][] before = triangles(flips, false);
        for (int p = 0; p < points; p++) {
            for (int q = p + 1; q < points; q++) {
                flipOne(text, before, p, q);
            }
        }
    }

    private static void flipOne(String text, int[][] before, int p, int q) {
        CircleFlips flips = Check.loaded(text);
        if (flips.why(p, q) != 0) {
            return;
        }
        Set<String> due = new TreeSet<>();
        List<Integer> thirds = new ArrayList<>();
        for (int[] t : before) {
            String name = name(t);
            int third = t[0] + t[1] + t[2] - p - q;
            if (third >= 0 && name.equals(name(p, q, third)) && third != p && third != q) {
                thirds.add(third);
            } else {
                due.add(name);
            }
        }
        String edge = "the edge " + p + ", " + q + " in " + text;
        Check.same("triangles at " + edge, thirds.size(), 2);
        int c = thirds.get(0);
        int d = thirds.get(1);
        due.add(name(p, c, d));
        due.add(name(q, c, d));
        int flipped = flips.flip(q, p);
        Check.same("flipped, " + edge, flipped, 100 * Math.min(c, d) + Math.max(c, d));
        Check.same("the drawing behind " + edge, names(triangles(flips, false)), due);
        Check.same("back again, " + edge, flips.flip(c, d), 100 * p + q);
        Check.same("the drawing as it was, " + edge, names(triangles(flips, false)), names(before));
        Check.same("both are flips, " + edge, flips.state(10), 2);
    }

    // "(A bad edge can always be flipped.)"; "each flip of a bad edge makes it less"
    private static void badCanBeFlipped(String text) {
        CircleFlips flips = Check.loaded(text);
        flipSome(flips, flips.state(0), 9);
        long lift = flips.lift();
        for (int step = 0; step < MOST_STEPS && flips.state(4) > 0; step++) {
            int edge = flips.badEdge();
            Check.same("the bad edge " + edge + " in " + text, flips.why(edge / 100, edge % 100), 0);
            flips.flip(edge / 100, edge % 100);
            Check.same("lift behind it in " + text, flips.lift() < lift, true);
            lift = flips.lift();
        }
        Check.same("bad edges at last in " + text, flips.state(4), 0);
    }

    // "mended until no circle of two triangles side by side holds the fourth point": then none holds any
    private static void mended(String text) {
        CircleFlips flips = Check.loaded(text);
        flipSome(flips, flips.state(0), 9);
        flips.mend(500);
        for (int t = 0; t < flips.state(1); t++) {
            Check.same("the circle of " + t + " in " + text, flips.triangle(t, false, 4), 0);
        }
        Check.same("bad edges in " + text, flips.state(4), 0);
    }

    // "As points are put, taken or moved, and behind load, it is made of the due triangles anew."
    private static void madeAnew(String text) {
        CircleFlips flips = Check.loaded(text);
        int points = flips.state(0);
        Check.same("behind load, " + text, flips.state(6), 0);
        flipSome(flips, points, 2);
        Check.same("put in, " + text, flips.put(150, 199), points);
        Check.same("put, " + text, Told.triangles(flips, false), Told.triangles(flips, true));
        flipSome(flips, points + 1, 1);
        flips.move(points, 151, 199);
        Check.same("moved, " + text, Told.triangles(flips, false), Told.triangles(flips, true));
        flipSome(flips, points + 1, 1);
        flips.take(points);
        Check.same("taken, " + text, Told.triangles(flips, false), Told.triangles(flips, true));
    }
}
