import java.util.Arrays;

/** What meets what, exactly: convex shapes, moving boxes, and a player among solid tiles. */
public final class SweptBoxes {
    public static final int NONE = -1;

    private static final long FARTHEST = 10000;
    private static final int MOST_SHAPES = 16;
    private static final int MOST_POINTS = 16;
    private static final int MOST_BOXES = 16;
    private static final int MOST_SWEEPS = 8;
    private static final int TILES = 24;
    private static final long TILE_SIDE = 16;
    private static final long LONGEST_SIDE = 64;
    private static final long FIRST_PLACE = -100;
    private static final long FIRST_SIDE = 8;
    private static final int X = 0;
    private static final int Y = 1;

    private final Hull[] hulls = new Hull[MOST_SHAPES];
    private int hullCount;
    private final Block[] blocks = new Block[MOST_BOXES];
    private int blockCount;
    /** Bit i of row j tells whether tile (i, j) is solid. */
    private final int[] solidRows = new int[TILES];
    /** Its move is the rest while a step runs, and means nothing afterwards. */
    private final Block playerBox = new Block();
    private final Trace[] traces = new Trace[MOST_SWEEPS];
    private int traceCount;
    /** Made once and used by every call, so that no call makes objects. */
    private final Block tileBlock = new Block();
    private final Meeting meeting = new Meeting();

    public SweptBoxes() {
        for (int n = 0; n < MOST_SHAPES; n++) {
            hulls[n] = new Hull();
        }
        for (int n = 0; n < MOST_BOXES; n++) {
            blocks[n] = new Block();
        }
        for (int n = 0; n < MOST_SWEEPS; n++) {
            traces[n] = new Trace();
        }
        startAnew();
    }

    public int shape() throws IllegalStateException {
        if (hullCount >= MOST_SHAPES) {
            throw new IllegalStateException("there are 16 shapes");
        }
        hulls[hullCount].empty();
        hullCount++;
        return hullCount - 1;
    }

    public boolean point(int shape, long x, long y)
            throws IndexOutOfBoundsException, IllegalStateException, IllegalArgumentException {
        needIndex(shape, hullCount);
        Hull hull = hulls[shape];
        if (hull.pointCount >= MOST_POINTS) {
            throw new IllegalStateException("the shape has 16 points");
        }
        needInRange(x, y);
        return hull.take(x, y);
    }

    public int corners(int shape) throws IndexOutOfBoundsException {
        needIndex(shape, hullCount);
        return hulls[shape].size;
    }

    public long corner(int shape, int k, int axis) throws IndexOutOfBoundsException {
        needIndex(shape, hullCount);
        Hull hull = hulls[shape];
        needIndex(k, hull.size);
        needIndex(axis, 2);
        return axis == X ? hull.xs[k] : hull.ys[k];
    }

    public boolean apart(int a, int b) throws IndexOutOfBoundsException {
        needIndex(a, hullCount);
        needIndex(b, hullCount);
        return hulls[a].isApartFrom(hulls[b]);
    }

    public int box(long x0, long y0, long x1, long y1)
            throws IllegalStateException, IllegalArgumentException {
        if (blockCount >= MOST_BOXES) {
            throw new IllegalStateException("there are 16 boxes");
        }
        needInRange(x0, y0);
        needInRange(x1, y1);
        if (x0 > x1 || y0 > y1) {
            throw new IllegalArgumentException("the first corner is above the second");
        }
        blocks[blockCount].put(x0, y0, x1, y1);
        blockCount++;
        return blockCount - 1;
    }

    public boolean move(int box, long dx, long dy)
            throws IndexOutOfBoundsException, IllegalArgumentException {
        needIndex(box, blockCount);
        needInRange(dx, dy);
        Block block = blocks[box];
        boolean another = block.dx != dx || block.dy != dy;
        block.head(dx, dy);
        return another;
    }

    public long touch(int a, int b, int part) throws IndexOutOfBoundsException {
        needMeeting(a, b, part);
        meeting.seekTouch(blocks[a], blocks[b]);
        return part == 0 ? meeting.upper : meeting.lower;
    }

    public long overlap(int a, int b, int part) throws IndexOutOfBoundsException {
        needMeeting(a, b, part);
        meeting.seekOverlap(blocks[a], blocks[b]);
        return part == 0 ? meeting.upper : meeting.lower;
    }

    public boolean tile(int i, int j, boolean solid)
            throws IndexOutOfBoundsException, IllegalStateException {
        needIndex(i, TILES);
        needIndex(j, TILES);
        tileBlock.putTile(i, j);
        if (solid && tileBlock.liesOver(playerBox)) {
            throw new IllegalStateException("the tile would overlap the player");
        }
        boolean another = isSolid(i, j) != solid;
        if (another) {
            solidRows[j] ^= 1 << i;
        }
        return another;
    }

    public boolean player(long x, long y, long w, long h) throws IllegalArgumentException {
        needInRange(x, y);
        if (w < 1 || w > LONGEST_SIDE || h < 1 || h > LONGEST_SIDE) {
            throw new IllegalArgumentException("a side is not 1 .. 64");
        }
        if (isBlocked(x, y, x + w, y + h)) {
            return false;
        }
        playerBox.put(x, y, x + w, y + h);
        return true;
    }

    public int step(long dx, long dy, int count) throws IllegalArgumentException {
        needInRange(dx, dy);
        needInRange(playerBox.x0 + dx, playerBox.y0 + dy);
        if (count < 0 || count > MOST_SWEEPS) {
            throw new IllegalArgumentException("the count is not 0 .. 8");
        }
        playerBox.head(dx, dy);
        traceCount = 0;
        while (traceCount < count && (playerBox.dx != 0 || playerBox.dy != 0)) {
            runSweep(traces[traceCount]);
            traceCount++;
        }
        return traceCount;
    }

    public long at(int what) throws IndexOutOfBoundsException {
        switch (what) {
            case 0:
                return playerBox.x0;
            case 1:
                return playerBox.y0;
            case 2:
                return playerBox.x1 - playerBox.x0;
            case 3:
                return playerBox.y1 - playerBox.y0;
            default:
                throw new IndexOutOfBoundsException("there is no such what");
        }
    }

    public long sweep(int k, int what) throws IndexOutOfBoundsException {
        needIndex(k, traceCount);
        Trace trace = traces[k];
        switch (what) {
            case 0:
                return trace.x;
            case 1:
                return trace.y;
            case 2:
                return trace.axis;
            case 3:
                return trace.tileMet;
            case 4:
                return trace.upper;
            case 5:
                return trace.lower;
            default:
                throw new IndexOutOfBoundsException("there is no such what");
        }
    }

    public void clear() {
        startAnew();
    }

    private void startAnew() {
        hullCount = 0;
        blockCount = 0;
        traceCount = 0;
        Arrays.fill(solidRows, 0);
        long firstEnd = FIRST_PLACE + FIRST_SIDE;
        playerBox.put(FIRST_PLACE, FIRST_PLACE, firstEnd, firstEnd);
    }

    private static void needIndex(int index, int count) {
        if (index < 0 || index >= count) {
            throw new IndexOutOfBoundsException("there is no such number");
        }
    }

    private void needMeeting(int a, int b, int part) {
        needIndex(a, blockCount);
        needIndex(b, blockCount);
        needIndex(part, 2);
    }

    private static void needInRange(long x, long y) {
        if (x < -FARTHEST || x > FARTHEST || y < -FARTHEST || y > FARTHEST) {
            throw new IllegalArgumentException("a number is not -10000 .. 10000");
        }
    }

    private boolean isSolid(int i, int j) {
        return (solidRows[j] >> i & 1) == 1;
    }

    /** Tiles that end at or before this number can't be overlapped from it on, and are left out. */
    private static int firstTileFrom(long low) {
        return (int) Math.max(0, Math.floorDiv(low, TILE_SIDE));
    }

    private static int lastTileTo(long high) {
        return (int) Math.min(TILES - 1, Math.floorDiv(high, TILE_SIDE));
    }

    private boolean isBlocked(long x0, long y0, long x1, long y1) {
        int lastJ = lastTileTo(y1);
        int firstI = firstTileFrom(x0);
        int lastI = lastTileTo(x1);
        for (int j = firstTileFrom(y0); j <= lastJ; j++) {
            for (int i = firstI; i <= lastI; i++) {
                tileBlock.putTile(i, j);
                if (isSolid(i, j) && tileBlock.liesOverRange(x0, y0, x1, y1)) {
                    return true;
                }
            }
        }
        return false;
    }

    private void runSweep(Trace trace) {
        trace.meetNothing();
        seekFirstTile(trace);
        if (trace.tileMet == NONE) {
            playerBox.shift(playerBox.dx, playerBox.dy);
            playerBox.head(0, 0);
        } else {
            stopAndSlide(trace);
        }
        trace.x = playerBox.x0;
        trace.y = playerBox.y0;
    }

    /** Goes by j and then by i, and lets only an earlier time win: so the least j and i stay. */
    private void seekFirstTile(Trace trace) {
        int lastJ = lastTileTo(playerBox.y1 + Math.max(0, playerBox.dy));
        int firstI = firstTileFrom(playerBox.x0 + Math.min(0, playerBox.dx));
        int lastI = lastTileTo(playerBox.x1 + Math.max(0, playerBox.dx));
        for (int j = firstTileFrom(playerBox.y0 + Math.min(0, playerBox.dy)); j <= lastJ; j++) {
            for (int i = firstI; i <= lastI; i++) {
                if (isSolid(i, j)) {
                    tryTile(i, j, trace);
                }
            }
        }
    }

    private void tryTile(int i, int j, Trace trace) {
        tileBlock.putTile(i, j);
        boolean meets = meeting.seekOverlap(playerBox, tileBlock);
        if (meets && (trace.tileMet == NONE || meeting.isBefore(trace.upper, trace.lower))) {
            trace.tileMet = TILES * j + i;
            trace.upper = meeting.upper;
            trace.lower = meeting.lower;
        }
    }

    private void stopAndSlide(Trace trace) {
        trace.axis = overlapsInXThen(trace) ? Y : X;
        long goneX = trace.shareOf(playerBox.dx);
        long goneY = trace.shareOf(playerBox.dy);
        long leftX = trace.axis == X ? 0 : playerBox.dx - goneX;
        long leftY = trace.axis == Y ? 0 : playerBox.dy - goneY;
        playerBox.shift(goneX, goneY);
        playerBox.head(leftX, leftY);
    }

    /** All is taken times the lower part of T, for the place at T itself need not be whole. */
    private boolean overlapsInXThen(Trace trace) {
        long tileX = trace.tileMet % TILES * TILE_SIDE;
        long gone = playerBox.dx * trace.upper;
        long low = playerBox.x0 * trace.lower + gone;
        long high = playerBox.x1 * trace.lower + gone;
        return low < (tileX + TILE_SIDE) * trace.lower && high > tileX * trace.lower;
    }

    /** A shape: how many points it was given, and its corners in order. */
    private static final class Hull {
        int pointCount;
        /** Those points that were outside when they came, by x and then y: no two are equal. */
        private final long[] outerXs = new long[MOST_POINTS];
        private final long[] outerYs = new long[MOST_POINTS];
        private int outerCount;
        /** The corners; while they are sought the way to the right and back, hence twice as long. */
        final long[] xs = new long[2 * MOST_POINTS];
        final long[] ys = new long[2 * MOST_POINTS];
        int size;

        void empty() {
            pointCount = 0;
            outerCount = 0;
            size = 0;
        }

        /** The caller has seen to it that there is room for one point more. */
        boolean take(long x, long y) {
            pointCount++;
            if (holds(x, y)) {
                return false;
            }
            insertOuter(x, y);
            findCorners();
            return true;
        }

        /** The axes settle it for shapes on one line, where no gap shows across an edge. */
        boolean isApartFrom(Hull other) {
            return size == 0 || other.size == 0
                    || hasGap(other, 1, 0) || hasGap(other, 0, 1)
                    || hasGapAcrossEdge(other) || other.hasGapAcrossEdge(this);
        }

        /** The range settles it for one corner or two, where the edges leave a whole line. */
        private boolean holds(long x, long y) {
            if (size == 0 || !isInRange(x, y)) {
                return false;
            }
            for (int k = 0; k < size; k++) {
                int next = after(k);
                if (turn(xs[next] - xs[k], ys[next] - ys[k], x - xs[k], y - ys[k]) < 0) {
                    return false;
                }
            }
            return true;
        }

        private boolean isInRange(long x, long y) {
            return !isBeyondAll(x, y, 1, 0) && !isBeyondAll(x, y, -1, 0)
                    && !isBeyondAll(x, y, 0, 1) && !isBeyondAll(x, y, 0, -1);
        }

        private boolean isBeyondAll(long x, long y, long dx, long dy) {
            return x * dx + y * dy > farthest(dx, dy);
        }

        private int after(int k) {
            return k + 1 < size ? k + 1 : 0;
        }

        private void insertOuter(long x, long y) {
            int place = outerCount;
            while (place > 0 && (outerXs[place - 1] > x
                    || outerXs[place - 1] == x && outerYs[place - 1] > y)) {
                outerXs[place] = outerXs[place - 1];
                outerYs[place] = outerYs[place - 1];
                place--;
            }
            outerXs[place] = x;
            outerYs[place] = y;
            outerCount++;
        }

        /** Along the lower side to the right, then back along the upper side. */
        private void findCorners() {
            size = 0;
            for (int n = 0; n < outerCount; n++) {
                append(outerXs[n], outerYs[n], 1);
            }
            int kept = size;
            for (int n = outerCount - 2; n >= 0; n--) {
                append(outerXs[n], outerYs[n], kept);
            }
            if (outerCount > 1) {
                // the way back ends at the first corner, which is there already
                size--;
            }
        }

        /** Corners where the way does not turn left are none, but for those kept: they stay. */
        private void append(long x, long y, int kept) {
            while (size > kept && turn(xs[size - 1] - xs[size - 2], ys[size - 1] - ys[size - 2],
                    x - xs[size - 1], y - ys[size - 1]) <= 0) {
                size--;
            }
            xs[size] = x;
            ys[size] = y;
            size++;
        }

        /** Above 0 for a turn to the left, from x to y by the shorter way. */
        private static long turn(long ax, long ay, long bx, long by) {
            return ax * by - ay * bx;
        }

        private boolean hasGapAcrossEdge(Hull other) {
            for (int k = 0; k < size; k++) {
                long dx = xs[after(k)] - xs[k];
                long dy = ys[after(k)] - ys[k];
                if (hasGap(other, -dy, dx)) {
                    return true;
                }
            }
            return false;
        }

        /** Whether all of one comes before all of the other, seen in this direction. */
        private boolean hasGap(Hull other, long dx, long dy) {
            return farthest(dx, dy) < -other.farthest(-dx, -dy)
                    || other.farthest(dx, dy) < -farthest(-dx, -dy);
        }

        /** The caller has seen to it that there is a corner. */
        private long farthest(long dx, long dy) {
            long most = xs[0] * dx + ys[0] * dy;
            for (int k = 1; k < size; k++) {
                most = Math.max(most, xs[k] * dx + ys[k] * dy);
            }
            return most;
        }
    }

    /** A box with its move. */
    private static final class Block {
        long x0;
        long y0;
        long x1;
        long y1;
        long dx;
        long dy;

        void put(long newX0, long newY0, long newX1, long newY1) {
            x0 = newX0;
            y0 = newY0;
            x1 = newX1;
            y1 = newY1;
            head(0, 0);
        }

        void putTile(int i, int j) {
            put(TILE_SIDE * i, TILE_SIDE * j, TILE_SIDE * i + TILE_SIDE, TILE_SIDE * j + TILE_SIDE);
        }

        void head(long newDx, long newDy) {
            dx = newDx;
            dy = newDy;
        }

        void shift(long byX, long byY) {
            x0 += byX;
            y0 += byY;
            x1 += byX;
            y1 += byY;
        }

        boolean hasMidst() {
            return x0 < x1 && y0 < y1;
        }

        boolean liesOver(Block other) {
            return liesOverRange(other.x0, other.y0, other.x1, other.y1);
        }

        /** For ranges and boxes with a midst. */
        boolean liesOverRange(long otherX0, long otherY0, long otherX1, long otherY1) {
            return x0 < otherX1 && otherX0 < x1 && y0 < otherY1 && otherY0 < y1;
        }
    }

    /** The first time that two boxes meet, sought by narrowing the times 0 .. 1 axis by axis. */
    private static final class Meeting {
        private static final int MOST_DIVISIONS = 100;

        /** What was found, in lowest terms; NONE and 1 without a meeting. */
        long upper;
        long lower;
        private long endUpper;
        private long endLower;
        private boolean barred;

        boolean seekTouch(Block a, Block b) {
            narrowBoth(a, b, true);
            return settle(!barred && upper * endLower <= endUpper * lower);
        }

        /** Boxes overlap strictly between the two times, so equal ones leave nothing. */
        boolean seekOverlap(Block a, Block b) {
            narrowBoth(a, b, false);
            return settle(!barred && a.hasMidst() && b.hasMidst()
                    && upper * endLower < endUpper * lower);
        }

        boolean isBefore(long otherUpper, long otherLower) {
            return upper * otherLower < otherUpper * lower;
        }

        private void narrowBoth(Block a, Block b, boolean edges) {
            upper = 0;
            lower = 1;
            endUpper = 1;
            endLower = 1;
            barred = false;
            narrow(b.x0 - a.x1, b.x1 - a.x0, a.dx - b.dx, edges);
            narrow(b.y0 - a.y1, b.y1 - a.y0, a.dy - b.dy, edges);
        }

        /** On one axis the boxes meet as long as a has gone from low to high, seen from b. */
        private void narrow(long low, long high, long speed, boolean edges) {
            if (speed == 0) {
                barred |= low > 0 || high < 0 || !edges && (low == 0 || high == 0);
                return;
            }
            long pace = Math.abs(speed);
            long near = speed > 0 ? low : -high;
            long far = speed > 0 ? high : -low;
            if (near * lower > upper * pace) {
                upper = near;
                lower = pace;
            }
            if (far * endLower < endUpper * pace) {
                endUpper = far;
                endLower = pace;
            }
        }

        private boolean settle(boolean found) {
            if (found) {
                long common = commonDivisor(upper, lower);
                upper /= common;
                lower /= common;
            } else {
                upper = NONE;
                lower = 1;
            }
            return found;
        }

        /** Of numbers from 0 on; at least 1, so that it may divide. */
        private static long commonDivisor(long a, long b) {
            long big = a;
            long small = b;
            for (int n = 0; n < MOST_DIVISIONS && small != 0; n++) {
                long rest = big % small;
                big = small;
                small = rest;
            }
            return Math.max(1, big);
        }
    }

    /** What is told of one sweep. */
    private static final class Trace {
        long x;
        long y;
        int axis;
        int tileMet;
        long upper;
        long lower;

        void meetNothing() {
            axis = NONE;
            tileMet = NONE;
            upper = 1;
            lower = 1;
        }

        /** Java's division rounds towards 0, as a sweep does. */
        long shareOf(long rest) {
            return lower > 0 ? rest * upper / lower : 0;
        }
    }
}
