/** Promises 1 and 11 to 16, by runs written out. */
public final class TilesTest {
    private static final Due due = new Due();

    public static void main(String[] args) {
        newObject();
        tiles();
        tileUnderThePlayer();
        players();
        playerRefusals();
        freeStep();
        stepRefusals();
        blockedInX();
        blockedInY();
        cornerBlocksX();
        roundsTowardsZero();
        countEndsTheStep();
        leastTileWins();
        sweepRefusals();
        clears();
        due.end();
    }

    private static void place(String what, SweptBoxes x, long... want) {
        for (int n = 0; n < want.length; n++) {
            int k = n;
            due.answer(what + ": at(" + n + ")", want[n], () -> x.at(k));
        }
    }

    private static void sweep(String what, SweptBoxes x, int k, long... want) {
        for (int n = 0; n < 6; n++) {
            int part = n;
            due.answer(what + ": sweep(" + k + ", " + n + ")", want[n], () -> x.sweep(k, part));
        }
    }

    private static void step(SweptBoxes x, long dx, long dy, int count, int want) {
        due.answer("step(" + dx + ", " + dy + ", " + count + ")", want, () -> x.step(dx, dy, count));
        due.noIndex("a sweep more", () -> x.sweep(want, 0));
    }

    private static void isAsAtFirst(SweptBoxes x) {
        place("as at first", x, -100, -100, 8, 8);
        due.noIndex("no shapes", () -> x.corners(0));
        due.noIndex("no boxes", () -> x.move(0, 0, 0));
        due.noIndex("no sweeps", () -> x.sweep(0, 0));
        for (int n = 0; n < 24; n++) {
            int i = n;
            int j = (n + 8) % 24;
            due.no("not solid: " + i + ", " + j, () -> x.tile(i, j, false));
        }
        due.answer("first shape", 0, x::shape);
        due.answer("without points", 0, () -> x.corners(0));
        due.yes("a point of it", () -> x.point(0, 4, 4));
        due.answer("first box", 0, () -> x.box(0, 0, 1, 1));
        due.no("without a move", () -> x.move(0, 0, 0));
    }

    private static void newObject() {
        isAsAtFirst(new SweptBoxes());
        // an object is for 512 calls, and there are more tiles
        noneIsSolid(0, 12);
        noneIsSolid(12, 24);
    }

    private static void noneIsSolid(int fromRow, int toRow) {
        SweptBoxes x = new SweptBoxes();
        for (int n = 24 * fromRow; n < 24 * toRow; n++) {
            int i = n % 24;
            int j = n / 24;
            due.no("not solid: " + i + ", " + j, () -> x.tile(i, j, false));
        }
    }

    private static void tiles() {
        SweptBoxes x = new SweptBoxes();
        due.yes("solid", () -> x.tile(23, 23, true));
        due.no("solid already", () -> x.tile(23, 23, true));
        due.yes("not solid", () -> x.tile(23, 23, false));
        due.no("not solid already", () -> x.tile(23, 23, false));
        due.yes("another", () -> x.tile(2, 5, true));
        due.no("not the one with i and j turned round", () -> x.tile(5, 2, false));
        int[] wrong = {-1, 24, Integer.MAX_VALUE, Integer.MIN_VALUE};
        for (int w : wrong) {
            due.noIndex("i " + w, () -> x.tile(w, 0, true));
            due.noIndex("j " + w, () -> x.tile(0, w, true));
            due.noIndex("i " + w + ", not solid", () -> x.tile(w, 0, false));
        }
        due.no("still solid", () -> x.tile(2, 5, true));
    }

    private static void tileUnderThePlayer() {
        SweptBoxes x = new SweptBoxes();
        x.player(16, 32, 16, 17);
        due.noState("tile (1, 2)", () -> x.tile(1, 2, true));
        due.noState("tile (1, 3), by one row", () -> x.tile(1, 3, true));
        due.no("tile (1, 2) is not solid", () -> x.tile(1, 2, false));
        due.no("tile (1, 3) is not solid", () -> x.tile(1, 3, false));
        due.yes("beside, left", () -> x.tile(0, 2, true));
        due.yes("beside, right", () -> x.tile(2, 2, true));
        due.yes("beside, below", () -> x.tile(1, 1, true));
        due.yes("beside, above", () -> x.tile(1, 4, true));
        due.yes("by the corner", () -> x.tile(0, 1, true));
        due.noIndex("no tile, though the player is there", () -> x.tile(1, 24, true));
    }

    private static void players() {
        SweptBoxes x = new SweptBoxes();
        due.yes("put", () -> x.player(5, 6, 1, 64));
        place("put", x, 5, 6, 1, 64);
        due.yes("put where it is", () -> x.player(5, 6, 1, 64));
        x.player(-100, -100, 8, 8);
        x.tile(2, 3, true);
        due.no("over the tile", () -> x.player(36, 50, 2, 2));
        place("not put", x, -100, -100, 8, 8);
        due.no("over it by one, left", () -> x.player(25, 50, 8, 8));
        due.no("over it by one, right", () -> x.player(47, 50, 8, 8));
        due.no("over it by one, below", () -> x.player(34, 41, 8, 8));
        due.no("over it by one, above", () -> x.player(34, 63, 8, 8));
        due.no("all round it", () -> x.player(20, 20, 64, 64));
        due.yes("left of it", () -> x.player(24, 50, 8, 8));
        due.yes("right of it", () -> x.player(48, 50, 8, 8));
        due.yes("below it", () -> x.player(34, 40, 8, 8));
        due.yes("above it", () -> x.player(34, 64, 8, 8));
        due.yes("at its corner", () -> x.player(48, 64, 8, 8));
        place("at its corner", x, 48, 64, 8, 8);
        x.tile(2, 3, false);
        due.yes("where it was solid", () -> x.player(36, 50, 2, 2));
        SweptBoxes y = new SweptBoxes();
        y.tile(0, 0, true);
        y.tile(23, 23, true);
        due.no("over the first tile by one", () -> y.player(-63, -63, 64, 64));
        due.yes("at the first tile", () -> y.player(-64, -63, 64, 64));
        due.no("over the last tile by one", () -> y.player(383, 383, 64, 64));
        due.yes("at the last tile", () -> y.player(384, 383, 64, 64));
    }

    private static void playerRefusals() {
        SweptBoxes x = new SweptBoxes();
        x.tile(0, 0, true);
        long[] far = {10001, -10001, Long.MAX_VALUE, Long.MIN_VALUE};
        long[] sides = {0, -1, 65, Long.MAX_VALUE, Long.MIN_VALUE};
        for (long f : far) {
            due.noArgument("x " + f, () -> x.player(f, 0, 1, 1));
            due.noArgument("y " + f, () -> x.player(0, f, 1, 1));
        }
        for (long s : sides) {
            due.noArgument("w " + s, () -> x.player(0, 0, s, 1));
            due.noArgument("h " + s, () -> x.player(0, 0, 1, s));
        }
        place("unchanged", x, -100, -100, 8, 8);
        due.yes("one end", () -> x.player(10000, -10000, 64, 64));
        place("one end", x, 10000, -10000, 64, 64);
        due.yes("other end", () -> x.player(-10000, 10000, 1, 1));
        due.noIndex("at(-1)", () -> x.at(-1));
        due.noIndex("at(4)", () -> x.at(4));
    }

    private static void freeStep() {
        SweptBoxes x = new SweptBoxes();
        step(x, 30, -7, 8, 1);
        place("free", x, -70, -107, 8, 8);
        sweep("free", x, 0, -70, -107, -1, -1, 1, 1);
        step(x, 0, 0, 8, 0);
        step(x, 5, 5, 0, 0);
        place("no sweep", x, -70, -107);
        step(x, 0, 1, 1, 1);
        place("y alone", x, -70, -106);
        step(x, 1, 0, 1, 1);
        place("x alone", x, -69, -106);
    }

    private static void stepRefusals() {
        SweptBoxes x = new SweptBoxes();
        x.player(100, -200, 3, 4);
        x.step(1, 1, 1);
        long[][] wrong = {{10001, 0, 1}, {-10001, 0, 1}, {0, 10001, 1}, {0, -10001, 1},
            {9900, 0, 1}, {0, -9802, 1}, {0, 0, -1}, {0, 0, 9}, {Long.MAX_VALUE, 0, 1},
            {0, Long.MIN_VALUE, 1}, {9900, 0, 0}, {1, 1, Integer.MAX_VALUE}};
        for (long[] w : wrong) {
            due.noArgument("step " + w[0] + ", " + w[1] + ", " + w[2],
                    () -> x.step(w[0], w[1], (int) w[2]));
        }
        place("unchanged", x, 101, -199, 3, 4);
        sweep("the latest step stays", x, 0, 101, -199, -1, -1, 1, 1);
        step(x, 9899, -9801, 1, 1);
        place("to the ends", x, 10000, -10000);
        step(x, -10000, 10000, 8, 1);
        place("all the way", x, 0, 0);
    }

    private static void blockedInX() {
        SweptBoxes x = new SweptBoxes();
        x.tile(3, 1, true);
        x.player(10, 18, 8, 8);
        step(x, 60, 0, 8, 1);
        sweep("against the tile", x, 0, 40, 18, 0, 27, 1, 2);
        place("against the tile", x, 40, 18);
        step(x, 60, 30, 8, 2);
        sweep("slides up", x, 0, 40, 18, 0, 27, 0, 1);
        sweep("and is past", x, 1, 40, 48, -1, -1, 1, 1);
        SweptBoxes y = new SweptBoxes();
        y.tile(3, 1, true);
        y.player(70, 18, 8, 8);
        step(y, -10, -1, 8, 2);
        sweep("from the right", y, 0, 64, 18, 0, 27, 3, 5);
        sweep("the rest of y", y, 1, 64, 17, -1, -1, 1, 1);
    }

    private static void blockedInY() {
        SweptBoxes x = new SweptBoxes();
        for (int i = 0; i < 24; i++) {
            x.tile(i, 0, true);
        }
        x.player(10, 30, 8, 8);
        step(x, 21, -21, 8, 2);
        sweep("lands", x, 0, 24, 16, 1, 1, 2, 3);
        sweep("slides", x, 1, 31, 16, -1, -1, 1, 1);
        x.tile(3, 1, true);
        step(x, 100, -1, 8, 2);
        sweep("on the floor", x, 0, 31, 16, 1, 1, 0, 1);
        sweep("into the wall", x, 1, 40, 16, 0, 27, 9, 100);
        place("in the corner", x, 40, 16, 8, 8);
        SweptBoxes y = new SweptBoxes();
        y.tile(1, 2, true);
        y.player(20, 16, 4, 8);
        step(y, 0, 16, 8, 1);
        sweep("from below", y, 0, 20, 24, 1, 49, 1, 2);
    }

    private static void cornerBlocksX() {
        SweptBoxes x = new SweptBoxes();
        x.tile(2, 2, true);
        x.player(20, 20, 8, 8);
        step(x, 10, 10, 8, 2);
        sweep("corner on corner", x, 0, 24, 24, 0, 50, 2, 5);
        sweep("goes on in y", x, 1, 24, 30, -1, -1, 1, 1);
        x.player(24, 48, 8, 8);
        step(x, 8, 8, 8, 1);
        place("off by the corner", x, 32, 56);
        x.player(24, 24, 8, 8);
        step(x, -5, 5, 8, 1);
        place("along the corner", x, 19, 29);
    }

    private static void roundsTowardsZero() {
        SweptBoxes x = new SweptBoxes();
        x.tile(4, 4, true);
        x.player(50, 66, 8, 8);
        step(x, 9, 5, 1, 1);
        sweep("6 in x, 10/3 in y", x, 0, 56, 69, 0, 100, 2, 3);
        x.player(50, 66, 8, 8);
        step(x, 9, 5, 2, 2);
        sweep("what was rounded off is not lost", x, 1, 56, 71, -1, -1, 1, 1);
        x.player(50, 78, 8, 8);
        step(x, 9, -5, 1, 1);
        sweep("6 in x, -10/3 in y", x, 0, 56, 75, 0, 100, 2, 3);
        x.player(70, 86, 8, 8);
        step(x, -5, -9, 2, 2);
        sweep("-10/3 in x, -6 in y", x, 0, 67, 80, 1, 100, 2, 3);
        sweep("the rest of x", x, 1, 65, 80, -1, -1, 1, 1);
        SweptBoxes y = new SweptBoxes();
        y.tile(4, 4, true);
        y.player(55, 50, 8, 8);
        step(y, 3, 10, 1, 1);
        sweep("at T over in x, rounded not", y, 0, 56, 56, 1, 100, 3, 5);
    }

    private static void countEndsTheStep() {
        SweptBoxes x = new SweptBoxes();
        x.tile(1, 0, true);
        x.player(8, 0, 8, 8);
        step(x, 5, 5, 1, 1);
        place("the rest of y is not gone", x, 8, 0);
        sweep("one sweep", x, 0, 8, 0, 0, 1, 0, 1);
        step(x, 5, 5, 2, 2);
        place("now it is", x, 8, 5);
        step(x, 5, 0, 8, 1);
        place("nothing is left", x, 8, 5);
    }

    private static void leastTileWins() {
        SweptBoxes x = new SweptBoxes();
        x.tile(4, 4, true);
        x.tile(5, 4, true);
        x.tile(4, 5, true);
        x.player(70, 40, 20, 8);
        step(x, 0, 32, 8, 1);
        sweep("least i", x, 0, 70, 56, 1, 100, 1, 2);
        x.player(40, 70, 8, 20);
        step(x, 32, 0, 8, 1);
        sweep("least j", x, 0, 56, 70, 0, 100, 1, 2);
        SweptBoxes y = new SweptBoxes();
        y.tile(1, 1, true);
        y.tile(1, 3, true);
        y.player(20, 100, 8, 8);
        step(y, 0, -100, 1, 1);
        sweep("the earlier one, though its j is greater", y, 0, 20, 64, 1, 73, 9, 25);
        SweptBoxes z = new SweptBoxes();
        z.player(40, 40, 24, 24);
        z.tile(4, 2, true);
        z.tile(2, 4, true);
        step(z, 16, 16, 1, 1);
        sweep("j before i", z, 0, 40, 40, 0, 2 * 24 + 4, 0, 1);
    }

    private static void sweepRefusals() {
        SweptBoxes x = new SweptBoxes();
        due.noIndex("no step yet", () -> x.sweep(0, 0));
        x.step(1, 1, 8);
        int[][] wrong = {{-1, 0}, {1, 0}, {8, 0}, {0, -1}, {0, 6}, {Integer.MAX_VALUE, 0},
            {0, Integer.MIN_VALUE}};
        for (int[] w : wrong) {
            due.noIndex("sweep " + w[0] + ", " + w[1], () -> x.sweep(w[0], w[1]));
        }
        x.player(50, 50, 1, 1);
        sweep("of the latest step, wherever the player is put", x, 0, -99, -99, -1, -1, 1, 1);
    }

    private static void clears() {
        SweptBoxes x = new SweptBoxes();
        for (int n = 0; n < 16; n++) {
            x.shape();
            x.point(n, n, n);
            x.point(n, 0, 9);
            x.box(0, 0, n, n);
            x.move(n, 5, 5);
            x.tile(n, n + 8, true);
        }
        for (int n = 0; n < 14; n++) {
            x.point(0, n, 0);
        }
        x.player(500, 500, 3, 4);
        x.step(7, 7, 7);
        x.clear();
        isAsAtFirst(x);
        x.clear();
        x.clear();
        for (int n = 0; n < 16; n++) {
            int number = n;
            due.answer("shape after clear", n, x::shape);
            due.answer("box after clear", n, () -> x.box(0, 0, number, number));
        }
        for (int n = 0; n < 16; n++) {
            x.point(0, n, 0);
        }
        due.answer("16 points after clear", 2, () -> x.corners(0));
        due.yes("a tile after clear", () -> x.tile(0, 0, true));
        x.clear();
        isAsAtFirst(x);
    }
}
