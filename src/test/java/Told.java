/** What the program tells, as rows that can be compared. */
final class Told {
    private Told() {
    }

    /** state(0) to state(11). */
    static String states(CircleFlips flips) {
        int[] states = new int[12];
        for (int what = 0; what <= 11; what++) {
            states[what] = flips.state(what);
        }
        return Check.row(states);
    }

    /** What point tells of each point. */
    static String points(CircleFlips flips, int what) {
        int[] row = new int[flips.state(0)];
        for (int p = 0; p < row.length; p++) {
            row[p] = flips.point(p, what);
        }
        return Check.row(row);
    }

    static String places(CircleFlips flips) {
        return points(flips, 0) + " / " + points(flips, 1);
    }

    /** The points of each triangle, in the order of their indexes. */
    static String triangles(CircleFlips flips, boolean isDue) {
        StringBuilder all = new StringBuilder();
        for (int t = 0; t < flips.state(isDue ? 5 : 1); t++) {
            all.append(all.length() == 0 ? "" : ", ").append(Check.row(
                    flips.triangle(t, isDue, 0), flips.triangle(t, isDue, 1), flips.triangle(t, isDue, 2)));
        }
        return all.toString();
    }

    /** What triangle tells of each triangle. */
    static String triangles(CircleFlips flips, boolean isDue, int what) {
        int[] row = new int[flips.state(isDue ? 5 : 1)];
        for (int t = 0; t < row.length; t++) {
            row[t] = flips.triangle(t, isDue, what);
        }
        return Check.row(row);
    }

    /** The corners in their order. */
    static String corners(CircleFlips flips) {
        int[] row = new int[flips.state(7)];
        for (int place = 0; place < row.length; place++) {
            row[place] = flips.corner(place);
        }
        return Check.row(row);
    }
}
