import java.util.ArrayList;
import java.util.List;
import java.util.TreeSet;

/** The document's words taken one by one, slowly: nothing here is done as the program does it. */
final class PlainReading {
    private PlainReading() {
    }

    /** A fraction with a lower number above 0. */
    record Time(long upper, long lower) implements Comparable<Time> {
        static Time of(long upper, long lower) {
            long sign = lower < 0 ? -1 : 1;
            long common = Math.max(1, java.math.BigInteger.valueOf(upper)
                    .gcd(java.math.BigInteger.valueOf(lower)).longValue());
            return new Time(sign * upper / common, sign * lower / common);
        }

        Time middleTo(Time other) {
            return of(upper * other.lower + other.upper * lower, 2 * lower * other.lower);
        }

        @Override
        public int compareTo(Time other) {
            return Long.compare(upper * other.lower, other.upper * lower);
        }
    }

    record Spot(long x, long y) {
    }

    record Box(long x0, long y0, long x1, long y1, long dx, long dy) {
    }

    // shapes: a point is in a hull if it is in one of the triangles, segments or points of it

    static long turn(Spot a, Spot b, Spot c) {
        return (b.x - a.x) * (c.y - a.y) - (b.y - a.y) * (c.x - a.x);
    }

    static boolean onSegment(Spot a, Spot b, Spot p) {
        return turn(a, b, p) == 0
                && Math.min(a.x, b.x) <= p.x && p.x <= Math.max(a.x, b.x)
                && Math.min(a.y, b.y) <= p.y && p.y <= Math.max(a.y, b.y);
    }

    static boolean inTriangle(Spot a, Spot b, Spot c, Spot p) {
        if (turn(a, b, c) == 0) {
            return onSegment(a, b, p) || onSegment(b, c, p) || onSegment(a, c, p);
        }
        long one = Long.signum(turn(a, b, p));
        long two = Long.signum(turn(b, c, p));
        long three = Long.signum(turn(c, a, p));
        boolean left = one >= 0 && two >= 0 && three >= 0;
        boolean right = one <= 0 && two <= 0 && three <= 0;
        return left || right;
    }

    static boolean inHull(List<Spot> hull, Spot p) {
        for (Spot a : hull) {
            for (Spot b : hull) {
                for (Spot c : hull) {
                    if (inTriangle(a, b, c, p)) {
                        return true;
                    }
                }
            }
        }
        return false;
    }

    static List<Spot> corners(List<Spot> points) {
        List<Spot> once = new ArrayList<>(new java.util.LinkedHashSet<>(points));
        List<Spot> found = new ArrayList<>();
        for (Spot p : once) {
            List<Spot> others = new ArrayList<>(once);
            others.remove(p);
            if (!inHull(others, p)) {
                found.add(p);
            }
        }
        if (found.isEmpty()) {
            return found;
        }
        Spot first = found.get(0);
        for (Spot p : found) {
            if (p.x < first.x || p.x == first.x && p.y < first.y) {
                first = p;
            }
        }
        Spot start = first;
        found.remove(start);
        found.sort((a, b) -> -Long.signum(turn(start, a, b)));
        found.add(0, start);
        return found;
    }

    static boolean segmentsMeet(Spot a, Spot b, Spot c, Spot d) {
        if (onSegment(a, b, c) || onSegment(a, b, d) || onSegment(c, d, a) || onSegment(c, d, b)) {
            return true;
        }
        return Long.signum(turn(a, b, c)) * Long.signum(turn(a, b, d)) < 0
                && Long.signum(turn(c, d, a)) * Long.signum(turn(c, d, b)) < 0;
    }

    /** Hulls have a point in common if one lies in the other, or segments of them meet. */
    static boolean apart(List<Spot> a, List<Spot> b) {
        if (a.isEmpty() || b.isEmpty()) {
            return true;
        }
        if (inHull(a, b.get(0)) || inHull(b, a.get(0))) {
            return false;
        }
        for (Spot p : a) {
            for (Spot q : a) {
                for (Spot r : b) {
                    for (Spot s : b) {
                        if (segmentsMeet(p, q, r, s)) {
                            return false;
                        }
                    }
                }
            }
        }
        return true;
    }

    // boxes: all times at which an edge passes an edge, and the times midway between these

    private static long scaled(long place, long move, Time t) {
        return place * t.lower + move * t.upper;
    }

    static boolean touchAt(Box a, Box b, Time t) {
        return scaled(a.x0, a.dx, t) <= scaled(b.x1, b.dx, t)
                && scaled(b.x0, b.dx, t) <= scaled(a.x1, a.dx, t)
                && scaled(a.y0, a.dy, t) <= scaled(b.y1, b.dy, t)
                && scaled(b.y0, b.dy, t) <= scaled(a.y1, a.dy, t);
    }

    /** The common points of two open spans are open: there is one if the span has length. */
    static boolean spansOverlap(long a0, long a1, long b0, long b1) {
        return Math.max(a0, b0) < Math.min(a1, b1);
    }

    static boolean overlapInXAt(Box a, Box b, Time t) {
        return spansOverlap(scaled(a.x0, a.dx, t), scaled(a.x1, a.dx, t),
                scaled(b.x0, b.dx, t), scaled(b.x1, b.dx, t));
    }

    static boolean overlapAt(Box a, Box b, Time t) {
        return overlapInXAt(a, b, t)
                && spansOverlap(scaled(a.y0, a.dy, t), scaled(a.y1, a.dy, t),
                        scaled(b.y0, b.dy, t), scaled(b.y1, b.dy, t));
    }

    private static void addPassing(TreeSet<Time> times, long gap, long speed) {
        if (speed != 0) {
            Time t = Time.of(gap, speed);
            if (t.upper >= 0 && t.upper <= t.lower) {
                times.add(t);
            }
        }
    }

    static List<Time> passings(Box a, Box b) {
        TreeSet<Time> times = new TreeSet<>();
        times.add(new Time(0, 1));
        times.add(new Time(1, 1));
        long[] axs = {a.x0, a.x1};
        long[] bxs = {b.x0, b.x1};
        long[] ays = {a.y0, a.y1};
        long[] bys = {b.y0, b.y1};
        for (int m = 0; m < 2; m++) {
            for (int n = 0; n < 2; n++) {
                addPassing(times, bxs[n] - axs[m], a.dx - b.dx);
                addPassing(times, bys[n] - ays[m], a.dy - b.dy);
            }
        }
        return new ArrayList<>(times);
    }

    static Time firstTouch(Box a, Box b) {
        for (Time t : passings(a, b)) {
            if (touchAt(a, b, t)) {
                return t;
            }
        }
        return null;
    }

    static Time firstOverlap(Box a, Box b) {
        List<Time> times = passings(a, b);
        for (int n = 0; n < times.size(); n++) {
            Time t = times.get(n);
            if (overlapAt(a, b, t)) {
                return t;
            }
            if (n + 1 < times.size() && overlapAt(a, b, t.middleTo(times.get(n + 1)))) {
                return t;
            }
        }
        return null;
    }
}
