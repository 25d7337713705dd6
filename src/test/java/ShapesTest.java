/** Promises 2 to 6, by runs written out. */
public final class ShapesTest {
    private static final Due due = new Due();

    public static void main(String[] args) {
        numbersAndLimit();
        pointsInAndOut();
        sixteenPoints();
        pointRefusals();
        cornersInOrder();
        cornersOnOneLine();
        cornerRefusals();
        apartOfPointsAndSegments();
        apartOfPolygons();
        apartAtTheEndsOfTheRange();
        apartRefusals();
        due.end();
    }

    private static void numbersAndLimit() {
        SweptBoxes x = new SweptBoxes();
        for (int n = 0; n < 16; n++) {
            due.answer("shape() " + n, n, x::shape);
        }
        due.noState("shape() 16", x::shape);
        due.noState("shape() 16 again", x::shape);
        due.answer("corners(15)", 0, () -> x.corners(15));
        due.noIndex("corners(16)", () -> x.corners(16));
    }

    private static void pointsInAndOut() {
        SweptBoxes x = new SweptBoxes();
        x.shape();
        due.yes("first point", () -> x.point(0, 3, 3));
        due.no("the same point", () -> x.point(0, 3, 3));
        due.yes("a second point", () -> x.point(0, 9, 6));
        due.no("between them", () -> x.point(0, 5, 4));
        due.yes("behind on their line", () -> x.point(0, 11, 7));
        due.yes("before on their line", () -> x.point(0, 1, 2));
        due.answer("corners of a segment", 2, () -> x.corners(0));
        due.yes("beside, within the range", () -> x.point(0, 5, 5));
        due.answer("corners of a triangle", 3, () -> x.corners(0));
        due.no("on its edge", () -> x.point(0, 3, 3));
        due.no("within", () -> x.point(0, 6, 5));
        due.yes("below its edge", () -> x.point(0, 6, 4));
        due.answer("corners of a quadrangle", 4, () -> x.corners(0));
    }

    private static void sixteenPoints() {
        SweptBoxes x = new SweptBoxes();
        x.shape();
        x.shape();
        for (int n = 0; n < 16; n++) {
            int at = n;
            due.yes("point on a parabola " + n, () -> x.point(0, at, (long) at * at));
            due.answer("point 5, 5, of which is one", n == 0 ? 1 : 0, () -> x.point(1, 5, 5) ? 1 : 0);
        }
        due.answer("corners of 16", 16, () -> x.corners(0));
        due.answer("corners of one", 1, () -> x.corners(1));
        due.noState("point 17", () -> x.point(0, 50, 50));
        due.noState("point 17, inside", () -> x.point(0, 3, 9));
        due.noState("point 17 of equal ones", () -> x.point(1, 6, 6));
        due.noState("point 17, out of range", () -> x.point(1, 10001, 0));
        due.answer("corners of 16 still", 16, () -> x.corners(0));
        for (int n = 0; n < 16; n++) {
            int k = n;
            due.answer("corner x " + n, n, () -> x.corner(0, k, 0));
            due.answer("corner y " + n, (long) n * n, () -> x.corner(0, k, 1));
        }
    }

    private static void pointRefusals() {
        SweptBoxes x = new SweptBoxes();
        due.noIndex("no shape", () -> x.point(0, 0, 0));
        x.shape();
        due.noIndex("shape -1", () -> x.point(-1, 0, 0));
        due.noIndex("shape 1, out of range too", () -> x.point(1, 20000, 0));
        long[] far = {10001, -10001, Long.MAX_VALUE, Long.MIN_VALUE, 1L << 32};
        for (long f : far) {
            due.noArgument("x " + f, () -> x.point(0, f, 0));
            due.noArgument("y " + f, () -> x.point(0, 0, f));
        }
        due.answer("no point was taken", 0, () -> x.corners(0));
        due.yes("one end", () -> x.point(0, 10000, -10000));
        due.yes("other end", () -> x.point(0, -10000, 10000));
        due.answer("two corners", 2, () -> x.corners(0));
    }

    private static void cornersInOrder() {
        SweptBoxes x = new SweptBoxes();
        x.shape();
        long[][] given = {{4, 9}, {0, 5}, {9, 0}, {0, 2}, {3, 0}, {9, 9}, {6, 0}, {5, 5}, {0, 3}};
        for (long[] p : given) {
            x.point(0, p[0], p[1]);
        }
        long[][] want = {{0, 2}, {3, 0}, {9, 0}, {9, 9}, {4, 9}, {0, 5}};
        corners(x, 0, want);
    }

    private static void cornersOnOneLine() {
        SweptBoxes x = new SweptBoxes();
        long[][] upright = {{2, 5}, {2, 9}, {2, -3}, {2, 0}, {2, 9}};
        x.shape();
        for (long[] p : upright) {
            x.point(0, p[0], p[1]);
        }
        corners(x, 0, new long[][] {{2, -3}, {2, 9}});
        long[][] falling = {{3, 1}, {1, 3}, {-1, 5}, {2, 2}};
        x.shape();
        for (long[] p : falling) {
            x.point(1, p[0], p[1]);
        }
        corners(x, 1, new long[][] {{-1, 5}, {3, 1}});
        x.shape();
        x.point(2, -7, 8);
        corners(x, 2, new long[][] {{-7, 8}});
    }

    private static void corners(SweptBoxes x, int shape, long[][] want) {
        due.answer("corners of " + shape, want.length, () -> x.corners(shape));
        for (int n = 0; n < want.length; n++) {
            int k = n;
            due.answer("x of corner " + k, want[k][0], () -> x.corner(shape, k, 0));
            due.answer("y of corner " + k, want[k][1], () -> x.corner(shape, k, 1));
        }
        due.noIndex("a corner more", () -> x.corner(shape, want.length, 0));
    }

    private static void cornerRefusals() {
        SweptBoxes x = new SweptBoxes();
        due.noIndex("corners without shapes", () -> x.corners(0));
        due.noIndex("corner without shapes", () -> x.corner(0, 0, 0));
        x.shape();
        due.noIndex("corners(-1)", () -> x.corners(-1));
        due.noIndex("corners(1)", () -> x.corners(1));
        due.noIndex("corner of none", () -> x.corner(0, 0, 0));
        x.point(0, 1, 2);
        due.noIndex("corner -1", () -> x.corner(0, -1, 0));
        due.noIndex("axis -1", () -> x.corner(0, 0, -1));
        due.noIndex("axis 2", () -> x.corner(0, 0, 2));
        due.noIndex("shape -1", () -> x.corner(-1, 0, 0));
        due.noIndex("shape 1", () -> x.corner(1, 0, 0));
        due.noIndex("far corner", () -> x.corner(0, Integer.MAX_VALUE, 0));
        due.noIndex("far axis", () -> x.corner(0, 0, Integer.MIN_VALUE));
    }

    private static SweptBoxes two(long[][] a, long[][] b) {
        SweptBoxes x = new SweptBoxes();
        x.shape();
        x.shape();
        for (long[] p : a) {
            x.point(0, p[0], p[1]);
        }
        for (long[] p : b) {
            x.point(1, p[0], p[1]);
        }
        return x;
    }

    private static void apart(String what, boolean want, long[][] a, long[][] b) {
        SweptBoxes x = two(a, b);
        due.answer(what, want ? 1 : 0, () -> x.apart(0, 1) ? 1 : 0);
        due.answer(what + ", turned round", want ? 1 : 0, () -> x.apart(1, 0) ? 1 : 0);
    }

    private static void apartOfPointsAndSegments() {
        long[][] none = {};
        long[][] point = {{2, 3}};
        long[][] segment = {{0, 0}, {6, 3}};
        apart("nothing and nothing", true, none, none);
        apart("nothing and a point", true, none, point);
        apart("nothing and a segment", true, none, segment);
        apart("equal points", false, point, point);
        apart("points one above the other", true, point, new long[][] {{2, 4}});
        apart("points side by side", true, point, new long[][] {{1, 3}});
        apart("a point on a segment", false, segment, new long[][] {{4, 2}});
        apart("a point at its end", false, segment, new long[][] {{6, 3}});
        apart("a point in its line, behind", true, segment, new long[][] {{8, 4}});
        apart("a point beside it", true, segment, new long[][] {{4, 1}});
        apart("segments that cross", false, segment, new long[][] {{0, 3}, {6, 0}});
        apart("segments that make a T", false, segment, new long[][] {{2, 1}, {2, 9}});
        apart("segments that nearly make a T", true, segment, new long[][] {{2, 2}, {2, 9}});
        apart("segments in one line that meet", false, segment, new long[][] {{4, 2}, {8, 4}});
        apart("segments in one line, ends meet", false, segment, new long[][] {{6, 3}, {8, 4}});
        apart("segments in one line, a gap", true, segment, new long[][] {{8, 4}, {10, 5}});
        apart("parallel segments", true, segment, new long[][] {{0, 1}, {6, 4}});
        SweptBoxes x = two(none, point);
        due.yes("one without points from itself", () -> x.apart(0, 0));
        due.no("one with a point from itself", () -> x.apart(1, 1));
    }

    private static void apartOfPolygons() {
        long[][] square = {{0, 0}, {4, 0}, {4, 4}, {0, 4}};
        apart("corner in corner", false, square, new long[][] {{4, 4}, {8, 4}, {8, 8}});
        apart("edge on edge", false, square, new long[][] {{4, 1}, {8, 1}, {8, 2}});
        apart("one beside", true, square, new long[][] {{5, 1}, {8, 1}, {8, 2}});
        apart("one within", false, square, new long[][] {{1, 1}, {2, 1}, {2, 2}});
        apart("a point within", false, square, new long[][] {{1, 1}});
        apart("a slanted edge over a corner", false, square, new long[][] {{5, 3}, {3, 5}, {9, 9}});
        apart("a slanted edge near a corner", true, square, new long[][] {{6, 3}, {3, 6}, {9, 9}});
        apart("a cross", false, square, new long[][] {{-2, 1}, {9, 1}, {9, 2}, {-2, 2}});
        apart("ranges overlap, shapes don't", true,
                new long[][] {{0, 0}, {10, 0}, {0, 10}}, new long[][] {{10, 10}, {10, 1}, {1, 10}});
    }

    private static void apartAtTheEndsOfTheRange() {
        long[][] big = {{-10000, -10000}, {10000, 9999}};
        apart("beside a long segment", true, big, new long[][] {{0, 0}});
        apart("a segment so near", true, big, new long[][] {{-9999, -9999}, {10000, 10000}});
        apart("a segment across", false, big, new long[][] {{-10000, 10000}, {10000, -10000}});
    }

    private static void apartRefusals() {
        SweptBoxes x = new SweptBoxes();
        due.noIndex("apart without shapes", () -> x.apart(0, 0));
        x.shape();
        due.noIndex("apart(0, 1)", () -> x.apart(0, 1));
        due.noIndex("apart(1, 0)", () -> x.apart(1, 0));
        due.noIndex("apart(-1, 0)", () -> x.apart(-1, 0));
        due.noIndex("apart(0, -1)", () -> x.apart(0, -1));
    }
}
