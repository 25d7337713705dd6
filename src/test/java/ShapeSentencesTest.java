/** The sentences on shapes, in the document's order: Terms, section 1, and promises 2 to 6. */
public final class ShapeSentencesTest {
    private static final String TERMS = "Terms, 1 SHAPES";
    private static final Sentences all = new Sentences();

    public static void main(String[] args) {
        points();
        corners();
        commonPoints();
        shape();
        point();
        pointRefusals();
        cornersAndCorner();
        apart();
        all.end();
    }

    private static long[] row(long... xsAndYs) {
        return xsAndYs;
    }

    private static SweptBoxes shapes(long[]... rows) {
        SweptBoxes x = new SweptBoxes();
        for (int s = 0; s < rows.length; s++) {
            x.shape();
            give(x, s, rows[s]);
        }
        return x;
    }

    private static void give(SweptBoxes x, int shape, long... xsAndYs) {
        for (int n = 0; n < xsAndYs.length; n += 2) {
            x.point(shape, xsAndYs[n], xsAndYs[n + 1]);
        }
    }

    /** Sixteen points, each of them a corner. */
    private static long[] parabola() {
        long[] row = new long[32];
        for (int n = 0; n < 16; n++) {
            row[2 * n] = n;
            row[2 * n + 1] = (long) n * n;
        }
        return row;
    }

    private static void hasCorners(Due due, SweptBoxes x, int shape, long... want) {
        due.answer("corners(" + shape + ")", want.length / 2, () -> x.corners(shape));
        for (int n = 0; n < want.length; n++) {
            int k = n / 2;
            int axis = n % 2;
            due.answer("corner(" + shape + ", " + k + ", " + axis + ")", want[n],
                    () -> x.corner(shape, k, axis));
        }
        due.noIndex("a corner more", () -> x.corner(shape, want.length / 2, 0));
    }

    private static void areApart(Due due, String what, boolean want, long[] a, long[] b) {
        SweptBoxes x = shapes(a, b);
        due.truth(what, want, () -> x.apart(0, 1));
        due.truth(what + ", turned round", want, () -> x.apart(1, 0));
    }

    private static void points() {
        all.sentence(TERMS, "up to 16", due -> {
            SweptBoxes x = shapes(parabola());
            due.answer("all 16 are corners", 16, () -> x.corners(0));
            due.noState("the 17th", () -> x.point(0, 16, 256));
            SweptBoxes same = shapes(row());
            for (int n = 0; n < 16; n++) {
                due.truth("equal point " + n, n == 0, () -> same.point(0, 7, 7));
            }
            due.noState("the 17th, though they are all equal", () -> same.point(0, 8, 8));
        });
        all.sentence(TERMS, "a shape without points has no place at all", due -> {
            SweptBoxes x = shapes(row(), row(0, 0), row());
            due.answer("no corners", 0, () -> x.corners(0));
            due.noIndex("no corner 0", () -> x.corner(0, 0, 0));
            due.yes("apart from a point at 0, 0", () -> x.apart(0, 1));
            due.yes("0, 0 was not in it", () -> x.point(2, 0, 0));
        });
    }

    private static void corners() {
        all.sentence(TERMS,
                "Its CORNERS are those points that are not in the hull of the others", due -> {
            SweptBoxes x = shapes(row(0, 0, 4, 0, 4, 4, 0, 4), row(0, 0, 6, 3, 2, 1, 4, 2), row(5, 5));
            give(x, 0, 2, 2, 2, 0, 4, 2, 2, 4, 0, 2);
            hasCorners(due, x, 0, 0, 0, 4, 0, 4, 4, 0, 4);
            hasCorners(due, x, 1, 0, 0, 6, 3);
            hasCorners(due, x, 2, 5, 5);
            give(x, 0, 8, 0);
            hasCorners(due, x, 0, 0, 0, 8, 0, 4, 4, 0, 4);
            give(x, 0, 0, 8);
            hasCorners(due, x, 0, 0, 0, 8, 0, 0, 8);
            give(x, 1, -2, -1, 8, 4);
            hasCorners(due, x, 1, -2, -1, 8, 4);
            SweptBoxes flat = shapes(row(0, 0, 1, 1, 10000, 9999), row(0, 0, 1, 1, 10000, 10000));
            hasCorners(due, flat, 0, 0, 0, 10000, 9999, 1, 1);
            hasCorners(due, flat, 1, 0, 0, 10000, 10000);
        });
        all.sentence(TERMS, "(equal points are one)", due -> {
            SweptBoxes x = shapes(row(0, 0, 0, 0), row(0, 0, 3, 1, 3, 1, 0, 0),
                    row(0, 0, 4, 0, 0, 4, 0, 4, 4, 0, 0, 0));
            hasCorners(due, x, 0, 0, 0);
            hasCorners(due, x, 1, 0, 0, 3, 1);
            hasCorners(due, x, 2, 0, 0, 4, 0, 0, 4);
        });
        all.sentence(TERMS, "counterclockwise (from x to y by the shorter way)", due -> {
            SweptBoxes x = shapes(row(0, 0, 1, 5, 6, 1), row(0, 0, 6, 1, 1, 5),
                    row(-3, 0, 0, 3, 3, 0, 0, -3));
            hasCorners(due, x, 0, 0, 0, 6, 1, 1, 5);
            hasCorners(due, x, 1, 0, 0, 6, 1, 1, 5);
            hasCorners(due, x, 2, -3, 0, 0, -3, 3, 0, 0, 3);
        });
        all.sentence(TERMS, "from the one with the least x, of these the least y", due -> {
            SweptBoxes x = shapes(row(-5, 9, 7, -8, -5, 2, 3, 9), row(2, 5, 2, -1, 2, 3),
                    row(4, 0, 0, 7), row(1, -9, -1, 9, -1, 8),
                    row(5, 4, 5, 2), row(-9, -5, -9, -3));
            hasCorners(due, x, 0, -5, 2, 7, -8, 3, 9, -5, 9);
            hasCorners(due, x, 1, 2, -1, 2, 5);
            hasCorners(due, x, 2, 0, 7, 4, 0);
            hasCorners(due, x, 3, -1, 8, 1, -9, -1, 9);
            hasCorners(due, x, 4, 5, 2, 5, 4);
            hasCorners(due, x, 5, -9, -5, -9, -3);
        });
    }

    private static void commonPoints() {
        all.sentence(TERMS, "Two shapes are APART if they have no point in common", due -> {
            long[] triangle = row(0, 0, 10, 0, 0, 10);
            areApart(due, "behind the slanted edge, ranges overlap", true, triangle, row(9, 9, 9, 2, 2, 9));
            for (long[] beside : new long[][] {{-3, -3}, {3, -3}, {3, 3}, {-3, 3}}) {
                areApart(due, "a point beside a slanted edge", true, row(-4, 0, 0, -4, 4, 0, 0, 4), beside);
            }
            for (long[] beside : new long[][] {{4, 4}, {5, 4}, {1, 8}, {8, 1}}) {
                areApart(due, "a point beside the first edge, slanted", true, row(0, 10, 10, 0, 10, 10), beside);
            }
            areApart(due, "one within the other", false, triangle, row(1, 1, 2, 1, 1, 2));
            areApart(due, "a bar across, no corner in the other", false, triangle, row(-1, 3, 11, 3, 11, 4, -1, 4));
            areApart(due, "segments in one line with a gap", true, row(0, 0, 2, 1), row(4, 2, 6, 3));
            areApart(due, "segments that cross", false, row(0, 0, 3, 3), row(0, 3, 3, 0));
            areApart(due, "parallel segments", true, row(0, 0, 3, 3), row(0, 1, 3, 4));
            areApart(due, "points one above the other", true, row(2, 3), row(2, 4));
            areApart(due, "points side by side", true, row(2, 3), row(3, 3));
            areApart(due, "a point beside a long segment, by less than 1", true,
                    row(-10000, -10000, 10000, 9999), row(0, 0));
        });
        all.sentence(TERMS, "(edges are of them)", due -> {
            long[] square = row(0, 0, 4, 0, 4, 4, 0, 4);
            areApart(due, "corner at corner", false, square, row(4, 4, 8, 4, 8, 8));
            areApart(due, "corner at edge", false, square, row(4, 2, 8, 1, 8, 3));
            areApart(due, "edge along edge", false, square, row(4, 1, 4, 3, 8, 2));
            areApart(due, "a slanted edge at a corner", false, square, row(5, 3, 3, 5, 9, 9));
            areApart(due, "a point on an edge", false, square, row(0, 1));
            areApart(due, "a point at a corner", false, square, row(0, 4));
            areApart(due, "a point on a slanted edge", false, row(0, 0, 6, 3, 6, 9), row(4, 2));
            areApart(due, "segments end at end", false, row(0, 0, 2, 1), row(2, 1, 6, 3));
            areApart(due, "equal points", false, row(2, 3), row(2, 3));
        });
    }

    private static void shape() {
        all.sentence("Promise 2: shape", "A new shape without points: its number.", due -> {
            SweptBoxes x = new SweptBoxes();
            for (int n = 0; n < 16; n++) {
                int number = n;
                due.answer("shape " + n, n, x::shape);
                due.answer("corners of shape " + n, 0, () -> x.corners(number));
                x.point(n, 1, 1);
            }
        });
        all.sentence("Promise 2: shape", "IllegalStateException: there are 16.", due -> {
            SweptBoxes x = new SweptBoxes();
            for (int n = 0; n < 15; n++) {
                x.shape();
            }
            due.answer("the 16th", 15, x::shape);
            due.noState("the 17th", x::shape);
            due.noState("the 17th, asked again", x::shape);
            x.clear();
            due.answer("the first after clear", 0, x::shape);
        });
    }

    private static void point() {
        all.sentence("Promise 3: point",
                "One point more of a shape: whether it was not in its hull.", due -> {
            SweptBoxes x = shapes(row(), row());
            due.yes("of no points", () -> x.point(0, 2, 2));
            due.no("equal to the only one", () -> x.point(0, 2, 2));
            due.yes("in line above it", () -> x.point(0, 2, 8));
            due.no("between two", () -> x.point(0, 2, 5));
            due.no("at the end of two", () -> x.point(0, 2, 8));
            due.yes("in their line, past the one end", () -> x.point(0, 2, 1));
            due.yes("in their line, past the other end", () -> x.point(0, 2, 9));
            due.yes("beside two", () -> x.point(0, 10, 1));
            due.no("on an edge", () -> x.point(0, 6, 5));
            due.yes("just outside it", () -> x.point(0, 7, 5));
            due.no("in the midst", () -> x.point(0, 4, 4));
            due.no("at a corner", () -> x.point(0, 10, 1));
            due.no("on the edge along y", () -> x.point(0, 2, 6));
            due.yes("just outside it", () -> x.point(0, 1, 6));
            due.yes("the other shape has none of them", () -> x.point(1, 4, 4));
            due.yes("beside one, with lesser x", () -> x.point(1, 3, 4));
            due.yes("in line with two, with greater x", () -> x.point(1, 8, 4));
            due.no("between them", () -> x.point(1, 7, 4));
            due.yes("in their line, with lesser x", () -> x.point(1, 2, 4));
            due.yes("above", () -> x.point(1, 5, 6));
            due.yes("beside an edge by the least that there is", () -> x.point(1, 3, 5));
            for (long[] by : new long[][] {{1, 0}, {-1, 0}, {0, 1}, {0, -1}}) {
                SweptBoxes one = shapes(row(6, 6));
                due.yes("beside the only one", () -> one.point(0, 6 + by[0], 6 + by[1]));
            }
        });
    }

    private static void pointRefusals() {
        all.sentence("Promise 3: point", "IndexOutOfBoundsException", due -> {
            SweptBoxes x = new SweptBoxes();
            due.noIndex("shape 0 of none", () -> x.point(0, 0, 0));
            x.shape();
            x.shape();
            for (int w : Sentences.notBelow(2)) {
                due.noIndex("shape " + w, () -> x.point(w, 0, 0));
            }
            due.yes("shape 1", () -> x.point(1, 0, 0));
        });
        all.sentence("Promise 3: point", "IllegalStateException: it has 16", due -> {
            SweptBoxes x = shapes(parabola(), row());
            due.noState("outside", () -> x.point(0, 50, 50));
            due.noState("inside", () -> x.point(0, 3, 10));
            due.noState("equal", () -> x.point(0, 0, 0));
            SweptBoxes inside = shapes(row(0, 0, 9, 0, 0, 9));
            for (int n = 0; n < 13; n++) {
                due.no("within, point " + (n + 3), () -> inside.point(0, 2, 2));
            }
            due.noState("the 17th, though 13 were within", () -> inside.point(0, 9, 9));
            due.yes("another shape has room", () -> x.point(1, 50, 50));
        });
        all.sentence("Promise 3: point", "IllegalArgumentException: out of range.", due -> {
            SweptBoxes x = shapes(row());
            for (long far : Sentences.tooFar()) {
                due.noArgument("x " + far, () -> x.point(0, far, 0));
                due.noArgument("y " + far, () -> x.point(0, 0, far));
            }
            due.yes("least x, greatest y", () -> x.point(0, -10000, 10000));
            due.yes("greatest x, least y", () -> x.point(0, 10000, -10000));
            hasCorners(due, x, 0, -10000, 10000, 10000, -10000);
        });
    }

    private static void cornersAndCorner() {
        all.sentence("Promise 4: corners", "How many corners a shape has.", due -> {
            SweptBoxes x = shapes(row(), row(1, 1, 1, 1), row(0, 0, 1, 1, 2, 2), row(0, 0, 5, 0, 0, 5, 1, 1),
                    parabola());
            due.answer("of no points", 0, () -> x.corners(0));
            due.answer("of equal points", 1, () -> x.corners(1));
            due.answer("of points in one line", 2, () -> x.corners(2));
            due.answer("of a triangle with a point within", 3, () -> x.corners(3));
            due.answer("of 16", 16, () -> x.corners(4));
        });
        all.sentence("Promise 4: corners", "IndexOutOfBoundsException.", due -> {
            SweptBoxes x = new SweptBoxes();
            due.noIndex("shape 0 of none", () -> x.corners(0));
            x.shape();
            for (int w : Sentences.notBelow(1)) {
                due.noIndex("corners(" + w + ")", () -> x.corners(w));
            }
        });
        all.sentence("Promise 5: corner", "X (axis 0) or y (1) of corner k of a shape.", due -> {
            SweptBoxes x = shapes(row(1, 2), row(-10000, 10000, 10000, -10000), parabola());
            hasCorners(due, x, 0, 1, 2);
            hasCorners(due, x, 1, -10000, 10000, 10000, -10000);
            hasCorners(due, x, 2, parabola());
        });
        all.sentence("Promise 5: corner", "IndexOutOfBoundsException.", due -> {
            SweptBoxes x = shapes(row(1, 2, 3, 4), row());
            due.noIndex("corner 0 of none", () -> x.corner(1, 0, 0));
            for (int w : Sentences.notBelow(2)) {
                due.noIndex("shape " + w, () -> x.corner(w, 0, 0));
                due.noIndex("corner " + w, () -> x.corner(0, w, 1));
                due.noIndex("axis " + w, () -> x.corner(0, 1, w));
            }
            give(x, 1, 0, 0, 4, 0, 4, 4, 0, 4);
            due.answer("corner 3 of four", 0, () -> x.corner(1, 3, 0));
            give(x, 1, 8, 0, 0, 8);
            due.noIndex("corner 3, where three are left", () -> x.corner(1, 3, 0));
        });
    }

    private static void apart() {
        all.sentence("Promise 6: apart", "Whether two shapes are apart", due -> {
            SweptBoxes x = shapes(row(0, 0, 4, 0, 0, 4), row(5, 0, 9, 0, 9, 9));
            due.yes("before", () -> x.apart(0, 1));
            due.yes("before, turned round", () -> x.apart(1, 0));
            give(x, 0, 5, 0);
            due.no("with a point more", () -> x.apart(0, 1));
            due.no("with a point more, turned round", () -> x.apart(1, 0));
        });
        all.sentence("Promise 6: apart", "the same one with points is not", due -> {
            SweptBoxes x = shapes(row(0, 0), row(0, 0, 5, 3), row(0, 0, 5, 3, 1, 1), parabola());
            for (int s = 0; s < 4; s++) {
                int same = s;
                due.no("shape " + s + " from itself", () -> x.apart(same, same));
            }
        });
        all.sentence("Promise 6: apart", "one without points is, from all", due -> {
            SweptBoxes x = shapes(row(), row(0, 0), row(-1, -1, 1, 1), row(-5, -5, 5, -5, 0, 5), row());
            for (int s = 0; s < 5; s++) {
                int other = s;
                due.yes("from shape " + s, () -> x.apart(0, other));
                due.yes("shape " + s + " from it", () -> x.apart(other, 0));
            }
        });
        all.sentence("Promise 6: apart", "IndexOutOfBoundsException.", due -> {
            SweptBoxes x = new SweptBoxes();
            due.noIndex("none at all", () -> x.apart(0, 0));
            x.shape();
            for (int w : Sentences.notBelow(1)) {
                due.noIndex("a is " + w, () -> x.apart(w, 0));
                due.noIndex("b is " + w, () -> x.apart(0, w));
                due.noIndex("both are " + w, () -> x.apart(w, w));
            }
        });
    }
}
