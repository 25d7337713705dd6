/** The sentences on the tiles and the player: Terms, section 3, and promises 1, 11, 12, 14 and 16. */
public final class TileSentencesTest {
    private static final String TERMS = "Terms, 3 TILES";
    private static final int[][] TILES = {{0, 0}, {23, 0}, {0, 23}, {23, 23}, {2, 5}};
    private static final Sentences all = new Sentences();

    public static void main(String[] args) {
        places();
        newObject();
        tile();
        tileRefusals();
        player();
        at();
        clear();
        all.end();
    }

    private static SweptBoxes with(int... isAndJs) {
        SweptBoxes x = new SweptBoxes();
        for (int n = 0; n < isAndJs.length; n += 2) {
            x.tile(isAndJs[n], isAndJs[n + 1], true);
        }
        return x;
    }

    private static void isAt(Due due, SweptBoxes x, long... want) {
        for (int n = 0; n < want.length; n++) {
            int what = n;
            due.answer("at(" + n + ")", want[n], () -> x.at(what));
        }
    }

    private static void places() {
        all.sentence(TERMS, "There are 24 times 24 TILES", due -> {
            SweptBoxes x = new SweptBoxes();
            for (int[] t : TILES) {
                due.yes("tile " + t[0] + ", " + t[1], () -> x.tile(t[0], t[1], true));
            }
            for (int w : Sentences.notBelow(24)) {
                due.noIndex("tile " + w + ", 0", () -> x.tile(w, 0, true));
                due.noIndex("tile 0, " + w, () -> x.tile(0, w, true));
            }
            due.no("tile (0, 1) is not tile (24, 0)", () -> x.tile(0, 1, false));
            due.no("tile (5, 2) is not tile (2, 5)", () -> x.tile(5, 2, false));
        });
        all.sentence(TERMS, "tile (i, j) from x 16 i to 16 i + 16, y 16 j to 16 j + 16", due -> {
            for (int[] t : TILES) {
                SweptBoxes x = with(t[0], t[1]);
                long left = 16L * t[0];
                long low = 16L * t[1];
                due.no("its first point", () -> x.player(left, low, 1, 1));
                due.no("its last point", () -> x.player(left + 15, low + 15, 1, 1));
                due.yes("left of it", () -> x.player(left - 1, low, 1, 1));
                due.yes("right of it", () -> x.player(left + 16, low + 15, 1, 1));
                due.yes("below it", () -> x.player(left, low - 1, 1, 1));
                due.yes("above it", () -> x.player(left + 15, low + 16, 1, 1));
            }
        });
        all.sentence(TERMS, "some are SOLID", due -> {
            SweptBoxes x = with(3, 3);
            due.no("onto a solid one", () -> x.player(50, 50, 4, 4));
            due.yes("onto another", () -> x.player(66, 50, 4, 4));
            x.tile(3, 3, false);
            due.yes("onto what was solid", () -> x.player(50, 50, 4, 4));
        });
        all.sentence(TERMS, "THE PLAYER is a box of whole sides 1 .. 64", due -> {
            SweptBoxes x = new SweptBoxes();
            due.yes("1 by 64", () -> x.player(0, 0, 1, 64));
            due.yes("64 by 1", () -> x.player(0, 0, 64, 1));
            due.noArgument("0 by 1", () -> x.player(0, 0, 0, 1));
            due.noArgument("1 by 0", () -> x.player(0, 0, 1, 0));
            due.noArgument("65 by 1", () -> x.player(0, 0, 65, 1));
            due.noArgument("1 by 65", () -> x.player(0, 0, 1, 65));
            isAt(due, x, 0, 0, 64, 1);
        });
        all.sentence(TERMS, "at a place x, y (its lesser corner; -10000 .. 10000)", due -> {
            SweptBoxes x = new SweptBoxes();
            due.yes("the greatest, though the sides reach past it", () -> x.player(10000, 10000, 64, 64));
            isAt(due, x, 10000, 10000, 64, 64);
            due.yes("the least", () -> x.player(-10000, -10000, 64, 64));
            isAt(due, x, -10000, -10000, 64, 64);
            due.noArgument("x past the greatest", () -> x.player(10001, 0, 1, 1));
            due.noArgument("y past the greatest", () -> x.player(0, 10001, 1, 1));
            due.noArgument("x past the least", () -> x.player(-10001, 0, 64, 1));
            due.noArgument("y past the least", () -> x.player(0, -10001, 1, 64));
        });
    }

    private static void newObject() {
        all.sentence("Promise 1: A new object", "No shapes", due -> {
            SweptBoxes x = new SweptBoxes();
            due.noIndex("corners(0)", () -> x.corners(0));
            due.answer("the first shape", 0, x::shape);
            SweptBoxes other = new SweptBoxes();
            due.noIndex("of another object neither", () -> other.corners(0));
        });
        all.sentence("Promise 1: A new object", "boxes", due -> {
            SweptBoxes x = new SweptBoxes();
            due.noIndex("move(0, ..)", () -> x.move(0, 0, 0));
            due.answer("the first box", 0, () -> x.box(0, 0, 1, 1));
            SweptBoxes other = new SweptBoxes();
            due.noIndex("of another object neither", () -> other.move(0, 0, 0));
        });
        all.sentence("Promise 1: A new object", "solid tiles", due -> {
            // an object is for 512 calls, and there are 576 tiles
            for (int half = 0; half < 2; half++) {
                SweptBoxes x = new SweptBoxes();
                for (int n = 0; n < 288; n++) {
                    int i = n % 24;
                    int j = 12 * half + n / 24;
                    due.no("tile " + i + ", " + j, () -> x.tile(i, j, false));
                }
            }
            with(3, 3);
            due.no("of another object neither", () -> new SweptBoxes().tile(3, 3, false));
        });
        all.sentence("Promise 1: A new object", "the player 8 by 8 at -100, -100.", due -> {
            isAt(due, new SweptBoxes(), -100, -100, 8, 8);
            new SweptBoxes().player(5, 5, 5, 5);
            isAt(due, new SweptBoxes(), -100, -100, 8, 8);
        });
    }

    private static void tile() {
        all.sentence("Promise 11: tile",
                "A tile is solid or not: whether that is another thing than before.", due -> {
            SweptBoxes x = new SweptBoxes();
            for (int[] t : TILES) {
                due.no("not solid, as at first", () -> x.tile(t[0], t[1], false));
                due.yes("solid", () -> x.tile(t[0], t[1], true));
                due.no("solid still", () -> x.tile(t[0], t[1], true));
                due.yes("not solid", () -> x.tile(t[0], t[1], false));
                due.no("not solid still", () -> x.tile(t[0], t[1], false));
            }
        });
    }

    private static void tileRefusals() {
        all.sentence("Promise 11: tile", "IndexOutOfBoundsException", due -> {
            SweptBoxes x = new SweptBoxes();
            for (int w : Sentences.notBelow(24)) {
                due.noIndex("i " + w, () -> x.tile(w, 23, true));
                due.noIndex("j " + w, () -> x.tile(23, w, true));
                due.noIndex("i " + w + ", not solid", () -> x.tile(w, 23, false));
                due.noIndex("j " + w + ", not solid", () -> x.tile(23, w, false));
            }
            due.noIndex("i 32, where a shift wraps round", () -> x.tile(32, 0, true));
            due.noIndex("i -32", () -> x.tile(-32, 0, true));
            due.no("tile (0, 0) is none of them", () -> x.tile(0, 0, false));
            due.no("tile (23, 23) is none of them", () -> x.tile(23, 23, false));
        });
        all.sentence("Promise 11: tile",
                "IllegalStateException: it would be solid, and overlap the player.", due -> {
            SweptBoxes x = new SweptBoxes();
            x.player(31, 47, 18, 18);
            for (int n = 0; n < 9; n++) {
                int i = 1 + n % 3;
                int j = 2 + n / 3;
                due.noState("tile " + i + ", " + j, () -> x.tile(i, j, true));
                due.no("not solid it may be: " + i + ", " + j, () -> x.tile(i, j, false));
            }
            x.player(32, 48, 16, 16);
            due.noState("the one that it covers", () -> x.tile(2, 3, true));
            for (int n = 0; n < 9; n++) {
                int i = 1 + n % 3;
                int j = 2 + n / 3;
                if (n != 4) {
                    due.yes("by edges alone: " + i + ", " + j, () -> x.tile(i, j, true));
                }
            }
            SweptBoxes gone = new SweptBoxes();
            gone.player(0, 0, 1, 1);
            gone.step(100, 0, 1);
            due.noState("where a step has brought it", () -> gone.tile(6, 0, true));
            due.yes("where it was before", () -> gone.tile(0, 0, true));
        });
    }

    private static void player() {
        all.sentence("Promise 12: player",
                "The player is put somewhere, with sides: whether it was", due -> {
            SweptBoxes x = with(0, 0);
            due.yes("put", () -> x.player(20, -30, 3, 40));
            isAt(due, x, 20, -30, 3, 40);
            due.yes("put where it is", () -> x.player(20, -30, 3, 40));
            due.yes("over where it is", () -> x.player(21, -29, 4, 41));
            isAt(due, x, 21, -29, 4, 41);
        });
        all.sentence("Promise 12: player", "not, if it would overlap a solid tile", due -> {
            SweptBoxes x = with(2, 3, 23, 23, 0, 0);
            due.no("by 1, from the left", () -> x.player(25, 50, 8, 8));
            due.no("by 1, from the right", () -> x.player(47, 50, 8, 8));
            due.no("by 1, from below", () -> x.player(34, 41, 8, 8));
            due.no("by 1, from above", () -> x.player(34, 63, 8, 8));
            due.no("by 1, at the corner", () -> x.player(25, 41, 8, 8));
            due.no("all round it", () -> x.player(10, 20, 64, 64));
            due.no("within it", () -> x.player(36, 50, 1, 1));
            due.no("the last tile by 1", () -> x.player(383, 383, 64, 64));
            due.no("the first tile by 1", () -> x.player(-63, -63, 64, 64));
            due.yes("edge at edge, from the left", () -> x.player(24, 50, 8, 8));
            due.yes("edge at edge, from the right", () -> x.player(48, 50, 8, 8));
            due.yes("edge at edge, from below", () -> x.player(34, 40, 8, 8));
            due.yes("edge at edge, from above", () -> x.player(34, 64, 8, 8));
            due.yes("corner at corner", () -> x.player(24, 40, 8, 8));
            due.yes("at the last tile", () -> x.player(384, 320, 64, 64));
            due.yes("at the first tile", () -> x.player(-64, -63, 64, 64));
        });
        all.sentence("Promise 12: player", "nothing changes then", due -> {
            SweptBoxes x = with(2, 3);
            x.step(5, 6, 1);
            due.no("over the tile", () -> x.player(34, 50, 3, 4));
            isAt(due, x, -95, -94, 8, 8);
            due.answer("the latest step", -95, () -> x.sweep(0, 0));
            due.no("the tile is solid still", () -> x.tile(2, 3, true));
            due.answer("a step from where it was", 1, () -> x.step(1, 1, 1));
            isAt(due, x, -94, -93, 8, 8);
        });
        all.sentence("Promise 12: player", "IllegalArgumentException: out of range.", due -> {
            SweptBoxes x = with(0, 0);
            for (long far : Sentences.tooFar()) {
                due.noArgument("x " + far, () -> x.player(far, 50, 1, 1));
                due.noArgument("y " + far, () -> x.player(50, far, 1, 1));
                due.noArgument("w " + far, () -> x.player(50, 50, far, 1));
                due.noArgument("h " + far, () -> x.player(50, 50, 1, far));
            }
            for (long side : new long[] {0, -1, -64, 65}) {
                due.noArgument("w " + side, () -> x.player(50, 50, side, 1));
                due.noArgument("h " + side, () -> x.player(50, 50, 1, side));
            }
            due.noArgument("over a tile too", () -> x.player(0, 0, 65, 1));
            due.yes("the ends", () -> x.player(-10000, 10000, 1, 64));
            due.yes("the other ends", () -> x.player(10000, -10000, 64, 1));
        });
    }

    private static void at() {
        all.sentence("Promise 14: at",
                "Of the player: what = 0 x, 1 y, 2 and 3 its sides.", due -> {
            SweptBoxes x = new SweptBoxes();
            x.player(-7, 11, 13, 64);
            isAt(due, x, -7, 11, 13, 64);
            x.step(100, 1000, 8);
            isAt(due, x, 93, 1011, 13, 64);
        });
        all.sentence("Promise 14: at", "IndexOutOfBoundsException.", due -> {
            SweptBoxes x = new SweptBoxes();
            for (int w : Sentences.notBelow(4)) {
                due.noIndex("at(" + w + ")", () -> x.at(w));
            }
        });
    }

    /** Shapes, boxes, tiles, the player and a step: as many as there may be, where there is a limit. */
    private static SweptBoxes full() {
        SweptBoxes x = new SweptBoxes();
        for (int n = 0; n < 16; n++) {
            x.shape();
            x.point(0, n, (long) n * n);
            x.box(0, 0, n, n);
            x.move(n, 5, n);
            x.tile(n, 23 - n, true);
        }
        x.point(1, 4, 4);
        x.player(500, 500, 3, 4);
        x.step(7, 7, 7);
        return x;
    }

    private static void isAsAtFirst(Due due, SweptBoxes x) {
        isAt(due, x, -100, -100, 8, 8);
        due.noIndex("no sweep", () -> x.sweep(0, 0));
        due.noIndex("no shape", () -> x.corners(0));
        due.noIndex("no box", () -> x.move(0, 0, 0));
        for (int n = 0; n < 16; n++) {
            int k = n;
            due.no("not solid: " + k, () -> x.tile(k, 23 - k, false));
            due.answer("shape " + k, k, x::shape);
            due.answer("without points: " + k, 0, () -> x.corners(k));
            due.answer("box " + k, k, () -> x.box(0, 0, 1, 1));
            due.no("without a move: " + k, () -> x.move(k, 0, 0));
            due.yes("room for 16 points: " + k, () -> x.point(0, k, (long) k * k));
        }
    }

    private static void clear() {
        all.sentence("Promise 16: clear", "All as at first.", due -> {
            SweptBoxes x = full();
            x.clear();
            isAsAtFirst(due, x);
            SweptBoxes twice = full();
            twice.clear();
            twice.clear();
            isAsAtFirst(due, twice);
            SweptBoxes unused = new SweptBoxes();
            unused.clear();
            isAsAtFirst(due, unused);
        });
    }
}
