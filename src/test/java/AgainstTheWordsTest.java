import java.util.ArrayList;
import java.util.List;

/** Made-up calls, always the same ones, each answer held against PlainReading. */
public final class AgainstTheWordsTest {
    private static final Due due = new Due();
    private static long seed = 20261115;

    public static void main(String[] args) {
        for (int n = 0; n < 400; n++) {
            shapes(n % 4 == 3 ? 10000 : 2 + n % 4 * 3);
        }
        for (int n = 0; n < 3000; n++) {
            boxes(n % 3 == 2 ? 10000 : 3 + n % 3 * 9);
        }
        for (int n = 0; n < 400; n++) {
            tiles(n);
        }
        due.end();
    }

    private static long pick(long low, long high) {
        seed = seed * 6364136223846793005L + 1442695040888963407L;
        return low + Math.floorMod(seed >> 20, high - low + 1);
    }

    private static void shapes(long far) {
        SweptBoxes x = new SweptBoxes();
        List<List<PlainReading.Spot>> all = new ArrayList<>();
        for (int s = 0; s < 5; s++) {
            x.shape();
            List<PlainReading.Spot> points = new ArrayList<>();
            all.add(points);
            // small shapes near each other meet and miss about as often
            long middleX = far < 100 ? pick(-far, far) : 0;
            long middleY = far < 100 ? pick(-far, far) : 0;
            long many = s == 4 ? 16 : pick(0, 5);
            for (int n = 0; n < many; n++) {
                addPoint(x, s, points, middleX + pick(-far, far), middleY + pick(-far, far), far);
            }
            holdCorners(x, s, points);
        }
        for (int a = 0; a < 5; a++) {
            for (int b = 0; b < 5; b++) {
                int one = a;
                int other = b;
                boolean want = PlainReading.apart(all.get(a), all.get(b));
                due.answer("apart " + all.get(a) + " " + all.get(b), want ? 1 : 0,
                        () -> x.apart(one, other) ? 1 : 0);
            }
        }
    }

    private static void addPoint(SweptBoxes x, int s, List<PlainReading.Spot> points,
            long px, long py, long far) {
        PlainReading.Spot p = new PlainReading.Spot(px, far > 100 && pick(0, 2) == 0 ? px : py);
        boolean want = !PlainReading.inHull(points, p);
        due.answer("point " + p + " of " + points, want ? 1 : 0, () -> x.point(s, p.x(), p.y()) ? 1 : 0);
        points.add(p);
    }

    private static void holdCorners(SweptBoxes x, int s, List<PlainReading.Spot> points) {
        List<PlainReading.Spot> want = PlainReading.corners(points);
        due.answer("corners of " + points, want.size(), () -> x.corners(s));
        for (int n = 0; n < want.size(); n++) {
            int k = n;
            due.answer("corner x " + n + " of " + points, want.get(n).x(), () -> x.corner(s, k, 0));
            due.answer("corner y " + n + " of " + points, want.get(n).y(), () -> x.corner(s, k, 1));
        }
    }

    private static PlainReading.Box makeBox(long far) {
        long x = pick(-far, far);
        long y = pick(-far, far);
        long w = Math.min(far - x, pick(0, far < 100 ? 4 : 6000));
        long h = Math.min(far - y, pick(0, far < 100 ? 4 : 6000));
        return new PlainReading.Box(x, y, x + w, y + h, pick(-far, far), pick(-far, far));
    }

    private static void boxes(long far) {
        SweptBoxes x = new SweptBoxes();
        PlainReading.Box[] made = new PlainReading.Box[4];
        for (int n = 0; n < made.length; n++) {
            PlainReading.Box b = makeBox(far);
            made[n] = b;
            x.box(b.x0(), b.y0(), b.x1(), b.y1());
            x.move(n, b.dx(), b.dy());
        }
        for (int a = 0; a < made.length; a++) {
            for (int b = 0; b < made.length; b++) {
                int one = a;
                int other = b;
                String pair = made[a] + " " + made[b];
                PlainReading.Time touch = PlainReading.firstTouch(made[a], made[b]);
                PlainReading.Time overlap = PlainReading.firstOverlap(made[a], made[b]);
                due.answer("touch, upper " + pair, upper(touch), () -> x.touch(one, other, 0));
                due.answer("touch, lower " + pair, lower(touch), () -> x.touch(one, other, 1));
                due.answer("overlap, upper " + pair, upper(overlap), () -> x.overlap(one, other, 0));
                due.answer("overlap, lower " + pair, lower(overlap), () -> x.overlap(one, other, 1));
            }
        }
    }

    private static long upper(PlainReading.Time t) {
        return t == null ? -1 : t.upper();
    }

    private static long lower(PlainReading.Time t) {
        return t == null ? 1 : t.lower();
    }

    /** The player's state as the words tell it. */
    private static final class Tiles {
        final boolean[][] solid = new boolean[24][24];
        long x = -100;
        long y = -100;
        long w = 8;
        long h = 8;
        final List<long[]> sweeps = new ArrayList<>();

        PlainReading.Box tile(int i, int j) {
            return new PlainReading.Box(16 * i, 16 * j, 16 * i + 16, 16 * j + 16, 0, 0);
        }

        PlainReading.Box player(long dx, long dy) {
            return new PlainReading.Box(x, y, x + w, y + h, dx, dy);
        }

        boolean isOver(PlainReading.Box p) {
            for (int i = 0; i < 24; i++) {
                for (int j = 0; j < 24; j++) {
                    if (solid[i][j]
                            && PlainReading.overlapAt(p, tile(i, j), new PlainReading.Time(0, 1))) {
                        return true;
                    }
                }
            }
            return false;
        }

        void step(long dx, long dy, int count) {
            sweeps.clear();
            long[] rest = {dx, dy};
            while (sweeps.size() < count && (rest[0] != 0 || rest[1] != 0)) {
                sweep(rest);
            }
        }

        private void sweep(long[] rest) {
            PlainReading.Box moved = player(rest[0], rest[1]);
            PlainReading.Time least = null;
            int met = -1;
            for (int number = 0; number < 576; number++) {
                int i = number % 24;
                int j = number / 24;
                PlainReading.Time t = solid[i][j] ? PlainReading.firstOverlap(moved, tile(i, j)) : null;
                if (t != null && (least == null || t.compareTo(least) < 0)) {
                    least = t;
                    met = number;
                }
            }
            if (least == null) {
                x += rest[0];
                y += rest[1];
                rest[0] = 0;
                rest[1] = 0;
                sweeps.add(new long[] {x, y, -1, -1, 1, 1});
                return;
            }
            boolean overX = PlainReading.overlapInXAt(moved, tile(met % 24, met / 24), least);
            long goneX = towardsZero(rest[0] * least.upper(), least.lower());
            long goneY = towardsZero(rest[1] * least.upper(), least.lower());
            x += goneX;
            y += goneY;
            rest[0] = overX ? rest[0] - goneX : 0;
            rest[1] = overX ? 0 : rest[1] - goneY;
            sweeps.add(new long[] {x, y, overX ? 1 : 0, met, least.upper(), least.lower()});
        }

        private static long towardsZero(long upper, long lower) {
            long size = Math.floorDiv(Math.abs(upper), lower);
            return upper < 0 ? -size : size;
        }
    }

    private static void tiles(int run) {
        SweptBoxes x = new SweptBoxes();
        Tiles want = new Tiles();
        int before = due.calls();
        long thin = 2 + run % 7;
        // one turn makes at most 54 calls, and an object is for 512
        for (int n = 0; due.calls() - before < 512 - 54; n++) {
            long kind = pick(0, 9);
            if (kind < thin && n < 40 || kind == 0) {
                setTile(x, want, n);
            } else if (kind < 4) {
                putPlayer(x, want, run);
            } else {
                makeStep(x, want);
            }
            holdPlayer(x, want);
        }
    }

    private static void setTile(SweptBoxes x, Tiles want, int n) {
        int i = (int) pick(0, n % 2 == 0 ? 23 : 6);
        int j = (int) pick(0, n % 2 == 0 ? 23 : 6);
        boolean solid = pick(0, 4) != 0;
        if (solid && PlainReading.overlapAt(want.player(0, 0), want.tile(i, j),
                new PlainReading.Time(0, 1))) {
            due.noState("tile " + i + ", " + j, () -> x.tile(i, j, true));
        } else {
            due.answer("tile " + i + ", " + j, want.solid[i][j] != solid ? 1 : 0,
                    () -> x.tile(i, j, solid) ? 1 : 0);
            want.solid[i][j] = solid;
        }
    }

    private static void putPlayer(SweptBoxes x, Tiles want, int run) {
        long far = run % 3 == 0 ? 380 : 130;
        long side = run % 2 == 0 ? 16 : 64;
        long px = pick(-20, far);
        long py = pick(-20, far);
        long w = pick(1, side);
        long h = pick(1, side);
        boolean free = !want.isOver(new PlainReading.Box(px, py, px + w, py + h, 0, 0));
        due.answer("player " + px + ", " + py + ", " + w + ", " + h, free ? 1 : 0,
                () -> x.player(px, py, w, h) ? 1 : 0);
        if (free) {
            want.x = px;
            want.y = py;
            want.w = w;
            want.h = h;
        }
    }

    private static void makeStep(SweptBoxes x, Tiles want) {
        long far = pick(0, 3) == 0 ? 400 : 60;
        long dx = pick(0, 3) == 0 ? pick(-1, 1) * 16 : pick(-far, far);
        long dy = pick(0, 3) == 0 ? pick(-1, 1) * 16 : pick(-far, far);
        int count = (int) pick(0, 8);
        // back to the midst, lest the player leaves the tiles for good
        if (want.x < -50 || want.x > 400) {
            dx = 150 - want.x;
        }
        if (want.y < -50 || want.y > 400) {
            dy = 150 - want.y;
        }
        String told = "step " + dx + ", " + dy + ", " + count + " from " + want.player(0, 0);
        long goX = dx;
        long goY = dy;
        want.step(dx, dy, count);
        due.answer(told, want.sweeps.size(), () -> x.step(goX, goY, count));
        for (int k = 0; k < want.sweeps.size(); k++) {
            for (int what = 0; what < 6; what++) {
                int row = k;
                int part = what;
                due.answer(told + ": sweep " + k + ", " + what, want.sweeps.get(k)[what],
                        () -> x.sweep(row, part));
            }
        }
        due.noIndex(told + ": a sweep more", () -> x.sweep(want.sweeps.size(), 0));
        if (want.isOver(want.player(0, 0))) {
            throw new IllegalStateException("the reading itself lets the player lie over a tile");
        }
    }

    private static void holdPlayer(SweptBoxes x, Tiles want) {
        due.answer("at(0)", want.x, () -> x.at(0));
        due.answer("at(1)", want.y, () -> x.at(1));
        due.answer("at(2)", want.w, () -> x.at(2));
        due.answer("at(3)", want.h, () -> x.at(3));
    }
}
