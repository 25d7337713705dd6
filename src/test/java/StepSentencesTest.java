/** The sentences on steps and sweeps: Terms, A STEP and A SWEEP, and promises 13 and 15. */
public final class StepSentencesTest {
    private static final String TERMS = "Terms, A STEP";
    private static final long NONE = SweptBoxes.NONE;
    private static final Sentences all = new Sentences();

    public static void main(String[] args) {
        rest();
        eachSolidTile();
        noTile();
        leastTime();
        tileMet();
        rounding();
        axis();
        whatIsLeft();
        neverOverTiles();
        step();
        stepRefusals();
        sweep();
        sweepRefusals();
        all.end();
    }

    private static SweptBoxes with(int... isAndJs) {
        SweptBoxes x = new SweptBoxes();
        for (int n = 0; n < isAndJs.length; n += 2) {
            x.tile(isAndJs[n], isAndJs[n + 1], true);
        }
        return x;
    }

    private static SweptBoxes playerAt(long px, long py, long side, int... isAndJs) {
        SweptBoxes x = with(isAndJs);
        if (!x.player(px, py, side, side)) {
            throw new IllegalStateException("the test itself puts the player over a tile");
        }
        return x;
    }

    private static void isAt(Due due, SweptBoxes x, long... want) {
        for (int n = 0; n < want.length; n++) {
            int what = n;
            due.answer("at(" + n + ")", want[n], () -> x.at(what));
        }
    }

    /** Each row: what is told of one sweep. */
    private static void step(Due due, SweptBoxes x, long dx, long dy, int count, long[]... want) {
        String told = "step(" + dx + ", " + dy + ", " + count + ")";
        due.answer(told, want.length, () -> x.step(dx, dy, count));
        for (int n = 0; n < want.length; n++) {
            for (int m = 0; m < 6; m++) {
                int k = n;
                int what = m;
                due.answer(told + ": sweep(" + n + ", " + m + ")", want[n][m], () -> x.sweep(k, what));
            }
        }
        due.noIndex(told + ": a sweep more", () -> x.sweep(want.length, 0));
        if (want.length > 0) {
            isAt(due, x, want[want.length - 1][0], want[want.length - 1][1]);
        }
    }

    /** Place, axis, tile and T. */
    private static long[] met(long x, long y, long axis, long tile, long upper, long lower) {
        return new long[] {x, y, axis, tile, upper, lower};
    }

    private static long[] free(long x, long y) {
        return met(x, y, NONE, NONE, 1, 1);
    }

    private static void rest() {
        all.sentence(TERMS, "the rest is the move at first", due -> {
            SweptBoxes x = new SweptBoxes();
            step(due, x, 30, -7, 1, free(-70, -107));
            step(due, x, -10, 0, 1, free(-80, -107));
            step(due, x, 0, 10, 1, free(-80, -97));
        });
        all.sentence(TERMS, "SWEEPS follow, as many as COUNT at most", due -> {
            SweptBoxes x = playerAt(8, 0, 8, 1, 0);
            step(due, x, 5, 5, 0);
            isAt(due, x, 8, 0);
            step(due, x, 5, 5, 1, met(8, 0, 0, 1, 0, 1));
            step(due, x, 5, 5, 2, met(8, 0, 0, 1, 0, 1), free(8, 5));
            step(due, x, 5, 5, 8, met(8, 5, 0, 1, 0, 1), free(8, 10));
        });
        all.sentence(TERMS, "as long as the rest is not 0, 0", due -> {
            SweptBoxes x = playerAt(8, 16, 8, 0, 0, 1, 0, 1, 1);
            step(due, x, 0, 0, 8);
            isAt(due, x, 8, 16);
            step(due, x, 5, 0, 8, met(8, 16, 0, 25, 0, 1));
            step(due, x, 0, -5, 8, met(8, 16, 1, 0, 0, 1));
            step(due, x, 5, -5, 8, met(8, 16, 1, 0, 0, 1), met(8, 16, 0, 25, 0, 1));
            step(due, x, 0, 1, 8, free(8, 17));
            step(due, x, -1, 0, 8, free(7, 17));
        });
    }

    private static void eachSolidTile() {
        all.sentence("Terms, A SWEEP",
                "the player, moved by the rest as a box by its move, has with each solid tile a "
                + "first overlap or none", due -> {
            int[][] tiles = {{0, 0, 0}, {23, 0, 23}, {0, 23, 552}, {23, 23, 575}, {2, 5, 122}};
            for (int[] t : tiles) {
                long left = 16L * t[0];
                long low = 16L * t[1];
                // right through and far beyond it, if nothing stops it
                step(due, playerAt(left - 40, low + 15, 8, t[0], t[1]), 1000, 0, 8,
                        met(left - 8, low + 15, 0, t[2], 4, 125));
                step(due, playerAt(left + 15, low + 48, 8, t[0], t[1]), 0, -1000, 8,
                        met(left + 15, low + 16, 1, t[2], 4, 125));
                step(due, playerAt(left - 20, low - 20, 64, t[0], t[1] == 23 ? 0 : 23), 1, 1, 8,
                        free(left - 19, low - 19));
                SweptBoxes open = playerAt(left - 40, low, 8, t[0], t[1]);
                open.tile(t[0], t[1], false);
                step(due, open, 1000, 0, 8, free(left + 960, low));
            }
            // over by 1 on the side that it comes from, and less and less
            step(due, playerAt(15, 3, 8, 0, 1), 1, 10, 8, met(15, 8, 1, 24, 1, 2), free(16, 8));
            step(due, playerAt(3, 15, 8, 1, 0), 10, 1, 8, met(8, 15, 0, 1, 1, 2), free(8, 16));
            step(due, playerAt(9, 37, 8, 1, 1), -1, -10, 8, met(9, 32, 1, 25, 1, 2), free(8, 32));
            step(due, playerAt(37, 9, 8, 1, 1), -10, -1, 8, met(32, 9, 0, 25, 1, 2), free(32, 8));
        });
    }

    private static void noTile() {
        all.sentence("Terms, A SWEEP",
                "If none has one, it moves by the rest; the rest is 0, 0 then", due -> {
            step(due, playerAt(10, 18, 8, 3, 1), 30, 0, 8, free(40, 18));
            step(due, playerAt(10, 18, 8, 3, 1), 31, 0, 8, met(40, 18, 0, 27, 30, 31));
            step(due, playerAt(70, 18, 8, 3, 1), -6, 0, 8, free(64, 18));
            step(due, playerAt(20, 10, 6, 1, 1), 1, 0, 8, free(21, 10));
            step(due, playerAt(0, 8, 8, 1, 1), 60, 0, 8, free(60, 8));
            step(due, playerAt(40, 18, 8, 3, 1), 0, 60, 8, free(40, 78));
            step(due, playerAt(40, 18, 8, 3, 1), -9, 0, 8, free(31, 18));
            step(due, playerAt(0, 24, 8, 1, 1), 16, 16, 8, free(16, 40));
            step(due, playerAt(8, 8, 8, 1, 1), -3, 3, 8, free(5, 11));
            step(due, new SweptBoxes(), 10000, 10000, 8, free(9900, 9900));
        });
    }

    private static void leastTime() {
        all.sentence("Terms, A SWEEP", "Else the least of these times is T", due -> {
            step(due, playerAt(0, 18, 8, 5, 1, 3, 1), 100, 0, 8, met(40, 18, 0, 27, 2, 5));
            step(due, playerAt(120, 18, 8, 5, 1, 3, 1), -100, 0, 8, met(96, 18, 0, 29, 6, 25));
            step(due, playerAt(18, 0, 8, 1, 5, 1, 3), 0, 100, 8, met(18, 40, 1, 73, 2, 5));
            step(due, playerAt(18, 120, 8, 1, 5, 1, 3), 0, -100, 8, met(18, 96, 1, 121, 6, 25));
            step(due, playerAt(6, 5, 8, 1, 0, 0, 1), 7, 11, 8, met(7, 8, 1, 24, 3, 11), met(8, 8, 0, 1, 1, 6));
            step(due, playerAt(6, 4, 8, 1, 0, 0, 1), 7, 11, 8, met(8, 7, 0, 1, 2, 7), met(8, 8, 1, 24, 1, 8));
            step(due, playerAt(-9999, 0, 64, 0, 0), 10000, 0, 8, met(-64, 0, 0, 0, 1987, 2000));
            step(due, playerAt(50, 10000, 64, 4, 23), 0, -10000, 8, met(50, 384, 1, 556, 601, 625));
        });
    }

    private static void tileMet() {
        all.sentence("Terms, A SWEEP",
                "the TILE met the one with that time that has the least j", due -> {
            SweptBoxes x = with(4, 6, 4, 5, 4, 4);
            x.player(40, 60, 8, 60);
            step(due, x, 32, 0, 8, met(56, 60, 0, 100, 1, 2));
            step(due, playerAt(40, 40, 24, 2, 4, 4, 2), 16, 16, 1, met(40, 40, 0, 52, 0, 1));
            step(due, playerAt(40, 40, 24, 2, 4, 4, 3), 16, 16, 1, met(40, 40, 0, 76, 0, 1));
        });
        all.sentence("Terms, A SWEEP", "of these the least i", due -> {
            SweptBoxes x = with(6, 4, 5, 4, 4, 4);
            x.player(60, 40, 60, 8);
            step(due, x, 0, 32, 8, met(60, 56, 1, 100, 1, 2));
            x.player(60, 90, 60, 8);
            step(due, x, 0, -20, 8, met(60, 80, 1, 100, 1, 2));
            x.player(80, 40, 40, 8);
            step(due, x, 0, 32, 8, met(80, 56, 1, 101, 1, 2));
        });
    }

    private static void rounding() {
        all.sentence("Terms, A SWEEP",
                "the player moves by T times the rest, both numbers rounded towards 0", due -> {
            step(due, playerAt(50, 66, 8, 4, 4), 9, 5, 1, met(56, 69, 0, 100, 2, 3));
            step(due, playerAt(50, 78, 8, 4, 4), 9, -5, 1, met(56, 75, 0, 100, 2, 3));
            step(due, playerAt(86, 66, 8, 4, 4), -9, 5, 1, met(80, 69, 0, 100, 2, 3));
            step(due, playerAt(86, 78, 8, 4, 4), -9, -5, 1, met(80, 75, 0, 100, 2, 3));
            step(due, playerAt(66, 50, 8, 4, 4), 5, 9, 1, met(69, 56, 1, 100, 2, 3));
            step(due, playerAt(78, 50, 8, 4, 4), -5, 9, 1, met(75, 56, 1, 100, 2, 3));
            step(due, playerAt(66, 86, 8, 4, 4), 5, -9, 1, met(69, 80, 1, 100, 2, 3));
            step(due, playerAt(78, 86, 8, 4, 4), -5, -9, 1, met(75, 80, 1, 100, 2, 3));
            step(due, playerAt(50, 70, 8, 4, 4), 12, -1, 1, met(56, 70, 0, 100, 1, 2));
            step(due, playerAt(50, 70, 8, 4, 4), 12, 1, 1, met(56, 70, 0, 100, 1, 2));
            step(due, playerAt(50, 70, 8, 4, 4), 9, 1, 1, met(56, 70, 0, 100, 2, 3));
        });
    }

    private static void axis() {
        all.sentence("Terms, A SWEEP",
                "THE AXIS blocked is y, if at T both overlap in x (in their midst, not by edges "
                + "alone)", due -> {
            step(due, playerAt(66, 50, 8, 4, 4), 0, 20, 8, met(66, 56, 1, 100, 3, 10));
            step(due, playerAt(57, 56, 8, 4, 4), 0, 20, 8, met(57, 56, 1, 100, 0, 1));
            step(due, playerAt(79, 80, 8, 4, 4), 0, -20, 8, met(79, 80, 1, 100, 0, 1));
            // at T it is at x 56.8, but is put at 56, where edges alone meet
            step(due, playerAt(55, 50, 8, 4, 4), 3, 10, 1, met(56, 56, 1, 100, 3, 5));
            step(due, playerAt(81, 50, 8, 4, 4), -3, 10, 1, met(80, 56, 1, 100, 3, 5));
        });
        all.sentence("Terms, A SWEEP", "else x", due -> {
            step(due, playerAt(50, 66, 8, 4, 4), 20, 0, 8, met(56, 66, 0, 100, 3, 10));
            step(due, playerAt(56, 57, 8, 4, 4), 1, 0, 8, met(56, 57, 0, 100, 0, 1));
            step(due, playerAt(50, 50, 8, 4, 4), 10, 10, 1, met(56, 56, 0, 100, 3, 5));
            step(due, playerAt(86, 86, 8, 4, 4), -10, -10, 1, met(80, 80, 0, 100, 3, 5));
            step(due, playerAt(50, 86, 8, 4, 4), 10, -10, 1, met(56, 80, 0, 100, 3, 5));
            step(due, playerAt(86, 50, 8, 4, 4), -10, 10, 1, met(80, 56, 0, 100, 3, 5));
            step(due, playerAt(56, 56, 8, 4, 4), 1, 1, 1, met(56, 56, 0, 100, 0, 1));
        });
    }

    private static void whatIsLeft() {
        all.sentence("Terms, A SWEEP",
                "What is left of the rest for the other axis (the rest less what was moved) is "
                + "the rest of the next sweep", due -> {
            step(due, playerAt(50, 66, 8, 4, 4), 9, 5, 8, met(56, 69, 0, 100, 2, 3), free(56, 71));
            step(due, playerAt(50, 78, 8, 4, 4), 9, -5, 8, met(56, 75, 0, 100, 2, 3), free(56, 73));
            step(due, playerAt(66, 50, 8, 4, 4), 5, 9, 8, met(69, 56, 1, 100, 2, 3), free(71, 56));
            step(due, playerAt(78, 86, 8, 4, 4), -5, -9, 8, met(75, 80, 1, 100, 2, 3), free(73, 80));
            step(due, playerAt(50, 70, 8, 4, 4), 12, -1, 8, met(56, 70, 0, 100, 1, 2), free(56, 69));
            step(due, playerAt(66, 86, 8, 4, 4, 5, 5), 10, -12, 8,
                    met(71, 80, 1, 100, 1, 2), met(72, 80, 0, 125, 1, 5));
        });
        all.sentence("Terms, A SWEEP", "of the blocked axis nothing is", due -> {
            step(due, playerAt(40, 18, 8, 3, 1), 60, 30, 8, met(40, 18, 0, 27, 0, 1), free(40, 48));
            step(due, playerAt(20, 32, 8, 1, 1), 30, -60, 8, met(20, 32, 1, 25, 0, 1), free(50, 32));
            step(due, playerAt(56, 56, 8, 4, 4), 30, 30, 8, met(56, 56, 0, 100, 0, 1), free(56, 86));
            step(due, playerAt(50, 66, 8, 4, 4), 20, 0, 8, met(56, 66, 0, 100, 3, 10));
        });
    }

    private static boolean liesOver(long px, long py, long side, int i, int j) {
        return px < 16L * i + 16 && px + side > 16L * i && py < 16L * j + 16 && py + side > 16L * j;
    }

    private static void neverOverTiles() {
        all.sentence(TERMS, "(So the player never lies over a solid tile.)", due -> {
            for (int side = 1; side <= 64; side += 7) {
                walk(due, side);
            }
        });
    }

    private static void walk(Due due, int side) {
        int[] isAndJs = new int[120];
        for (int n = 0; n < 60; n++) {
            isAndJs[2 * n] = n * 7 % 24;
            isAndJs[2 * n + 1] = n * 5 / 13 % 24;
        }
        SweptBoxes x = playerAt(-100, -100, side, isAndJs);
        int stops = 0;
        long[] place = {-100, -100};
        for (int n = 0; n < 100; n++) {
            // to somewhere among the tiles or near them, another place each time
            long toX = n * 37 % 401 - 10;
            long toY = n * 53 % 397 - 10;
            x.step(toX - place[0], toY - place[1], 1 + n % 3);
            long px = x.at(0);
            long py = x.at(1);
            place[0] = px;
            place[1] = py;
            stops += px != toX || py != toY ? 1 : 0;
            for (int m = 0; m < 60; m++) {
                int i = isAndJs[2 * m];
                int j = isAndJs[2 * m + 1];
                due.no("at " + px + ", " + py + " over tile " + i + ", " + j,
                        () -> liesOver(px, py, side, i, j));
            }
        }
        boolean often = stops > 20;
        due.yes("tiles stop it often", () -> often);
    }

    private static void step() {
        all.sentence("Promise 13: step", "A step: how many sweeps there were.", due -> {
            SweptBoxes x = playerAt(50, 66, 8, 4, 4);
            due.answer("none, of a move 0, 0", 0, () -> x.step(0, 0, 8));
            due.answer("none, by the count", 0, () -> x.step(9, 5, 0));
            due.answer("one, by the count", 1, () -> x.step(9, 5, 1));
            due.answer("two", 2, () -> x.step(9, 5, 8));
            due.answer("one, free", 1, () -> x.step(-9, 5, 8));
        });
    }

    private static void stepRefusals() {
        all.sentence("Promise 13: step",
                "IllegalArgumentException: the move is out of range", due -> {
            SweptBoxes least = playerAt(-10000, -10000, 1);
            due.noArgument("dx 10001, though it would end at 1", () -> least.step(10001, 0, 1));
            due.noArgument("dy 10001, though it would end at 1", () -> least.step(0, 10001, 1));
            step(due, least, 10000, 10000, 1, free(0, 0));
            SweptBoxes most = playerAt(10000, 10000, 1);
            due.noArgument("dx -10001, though it would end at -1", () -> most.step(-10001, 0, 1));
            due.noArgument("dy -10001, though it would end at -1", () -> most.step(0, -10001, 1));
            step(due, most, -10000, -10000, 1, free(0, 0));
            SweptBoxes x = playerAt(-10000, 10000, 1);
            for (long far : Sentences.tooFar()) {
                due.noArgument("dx " + far, () -> x.step(far, 0, 1));
                due.noArgument("dy " + far, () -> x.step(0, far, 1));
                due.noArgument("dx " + far + ", count 0", () -> x.step(far, 0, 0));
            }
        });
        all.sentence("Promise 13: step",
                "the player's place and the move together are (on either axis)", due -> {
            SweptBoxes x = playerAt(9000, -9000, 64);
            due.noArgument("x past the greatest", () -> x.step(1001, 0, 1));
            due.noArgument("y past the least", () -> x.step(0, -1001, 1));
            due.noArgument("x past the greatest, count 0", () -> x.step(1001, 0, 0));
            step(due, x, 1000, -1000, 1, free(10000, -10000));
            due.noArgument("x past it by 1", () -> x.step(1, 0, 1));
            due.noArgument("y past it by 1", () -> x.step(0, -1, 1));
            SweptBoxes y = playerAt(-9000, 9000, 64);
            due.noArgument("x past the least", () -> y.step(-1001, 0, 1));
            due.noArgument("y past the greatest", () -> y.step(0, 1001, 1));
            step(due, y, -1000, 1000, 1, free(-10000, 10000));
            SweptBoxes stopped = playerAt(8, 4, 8, 1, 0);
            due.noArgument("though a tile would stop it", () -> stopped.step(9993, 0, 1));
            step(due, stopped, 9992, 0, 8, met(8, 4, 0, 1, 0, 1));
        });
        all.sentence("Promise 13: step", "or count is not 0 .. 8.", due -> {
            SweptBoxes x = new SweptBoxes();
            for (int w : Sentences.notBelow(9)) {
                due.noArgument("count " + w, () -> x.step(1, 1, w));
                due.noArgument("count " + w + ", move 0, 0", () -> x.step(0, 0, w));
            }
            due.answer("count 0", 0, () -> x.step(1, 1, 0));
            due.answer("count 8", 1, () -> x.step(1, 1, 8));
        });
    }

    private static void sweep() {
        all.sentence("Promise 15: sweep", "Of sweep k of the latest step", due -> {
            SweptBoxes x = playerAt(50, 66, 8, 4, 4);
            step(due, x, 9, 5, 8, met(56, 69, 0, 100, 2, 3), free(56, 71));
            step(due, x, -6, 0, 8, free(50, 71));
            step(due, x, 9, 5, 8, met(56, 74, 0, 100, 2, 3), free(56, 76));
            x.player(0, 0, 1, 1);
            due.answer("wherever the player is put", 76, () -> x.sweep(1, 1));
            step(due, x, 0, 0, 8);
            step(due, x, 1, 1, 1, free(1, 1));
            step(due, x, 1, 1, 0);
        });
        all.sentence("Promise 15: sweep", "what = 0 and 1 the place behind it", due -> {
            SweptBoxes x = playerAt(50, 66, 8, 4, 4);
            x.step(9, 5, 8);
            due.answer("x behind sweep 0", 56, () -> x.sweep(0, 0));
            due.answer("y behind sweep 0", 69, () -> x.sweep(0, 1));
            due.answer("x behind sweep 1", 56, () -> x.sweep(1, 0));
            due.answer("y behind sweep 1", 71, () -> x.sweep(1, 1));
        });
        all.sentence("Promise 15: sweep", "2 the axis blocked (0 x, 1 y; NONE)", due -> {
            SweptBoxes x = playerAt(56, 66, 8, 4, 4);
            x.step(1, 1, 8);
            due.answer("x", 0, () -> x.sweep(0, 2));
            due.answer("none", NONE, () -> x.sweep(1, 2));
            x.player(66, 56, 8, 8);
            x.step(1, 1, 8);
            due.answer("y", 1, () -> x.sweep(0, 2));
            due.answer("none again", NONE, () -> x.sweep(1, 2));
        });
        all.sentence("Promise 15: sweep", "3 the tile met, 24 j + i (NONE)", due -> {
            int[][] tiles = {{0, 0, 0}, {23, 0, 23}, {0, 23, 552}, {23, 23, 575}, {2, 5, 122}};
            for (int[] t : tiles) {
                SweptBoxes x = playerAt(16L * t[0] - 8, 16L * t[1] + 4, 8, t[0], t[1]);
                x.step(5, 5, 8);
                due.answer("tile " + t[0] + ", " + t[1], t[2], () -> x.sweep(0, 3));
                due.answer("none", NONE, () -> x.sweep(1, 3));
            }
        });
        all.sentence("Promise 15: sweep",
                "4 and 5 the parts of T (1 and 1 without a tile)", due -> {
            SweptBoxes x = playerAt(44, 66, 8, 4, 4);
            step(due, x, 18, 0, 8, met(56, 66, 0, 100, 2, 3));
            step(due, x, 18, 1, 8, met(56, 66, 0, 100, 0, 1), free(56, 67));
            step(due, x, 0, 7, 8, free(56, 74));
        });
    }

    private static void sweepRefusals() {
        all.sentence("Promise 15: sweep", "IndexOutOfBoundsException.", due -> {
            SweptBoxes x = playerAt(50, 66, 8, 4, 4);
            due.noIndex("before the first step", () -> x.sweep(0, 0));
            x.step(9, 5, 8);
            for (int w : Sentences.notBelow(2)) {
                due.noIndex("sweep " + w, () -> x.sweep(w, 0));
            }
            for (int w : Sentences.notBelow(6)) {
                due.noIndex("what " + w, () -> x.sweep(1, w));
            }
            due.noIndex("sweep 8", () -> x.sweep(8, 0));
            x.step(1, 0, 1);
            due.noIndex("sweep 1, where there was one before", () -> x.sweep(1, 0));
            x.step(0, 0, 1);
            due.noIndex("sweep 0 of none", () -> x.sweep(0, 0));
            x.step(1, 0, 1);
            x.clear();
            due.noIndex("sweep 0 after clear", () -> x.sweep(0, 0));
        });
    }
}
