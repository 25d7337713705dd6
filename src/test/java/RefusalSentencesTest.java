import java.util.function.Consumer;
import java.util.function.LongSupplier;

/** The sentences on all methods at once: what is out of range, what is thrown, and what stays. */
public final class RefusalSentencesTest {
    private static final Sentences all = new Sentences();

    public static void main(String[] args) {
        calls();
        range();
        firstNamed();
        noSuch();
        shapesStay();
        boxesStay();
        tilesStay();
        stepsStay();
        all.end();
    }

    private static void calls() {
        all.sentence("What it is",
                "An object is used for at most 512 calls after it has been made", due -> {
            SweptBoxes x = new SweptBoxes();
            x.tile(0, 0, true);
            x.player(16, 0, 8, 8);
            for (int n = 3; n <= 511; n++) {
                boolean out = n % 2 == 1;
                due.answer("call " + n, out ? 1 : 2, () -> x.step(out ? 10 : -11, out ? 10 : -10, 8));
            }
            due.answer("call 512, out once more than back", 26, () -> x.at(0));
            SweptBoxes tiles = new SweptBoxes();
            for (int n = 1; n <= 512; n++) {
                boolean solid = n % 2 == 1;
                due.yes("call " + n, () -> tiles.tile(23, 23, solid));
            }
            SweptBoxes boxes = new SweptBoxes();
            boxes.box(0, 0, 1, 1);
            for (int n = 2; n <= 511; n++) {
                int dx = n;
                due.yes("call " + n, () -> boxes.move(0, dx, 0));
            }
            due.answer("call 512", 0, () -> boxes.overlap(0, 0, 0));
            SweptBoxes clears = new SweptBoxes();
            for (int n = 1; n <= 511; n += 2) {
                due.answer("call " + n, 0, clears::shape);
                clears.clear();
            }
        });
    }

    private static void range() {
        all.sentence("Terms",
                "Coordinates and moves are whole numbers from -10000 to 10000.", due -> {
            SweptBoxes x = new SweptBoxes();
            x.shape();
            for (long end : new long[] {-10000, 10000}) {
                long past = end < 0 ? end - 1 : end + 1;
                due.yes("point " + end, () -> x.point(0, end, end));
                due.noArgument("point, x " + past, () -> x.point(0, past, 0));
                due.noArgument("point, y " + past, () -> x.point(0, 0, past));
                int number = end < 0 ? 0 : 1;
                due.answer("box " + end, number, () -> x.box(end, end, end, end));
                due.noArgument("box, x0 and x1 " + past, () -> x.box(past, 0, past, 0));
                due.noArgument("box, y0 and y1 " + past, () -> x.box(0, past, 0, past));
                due.yes("move " + end, () -> x.move(0, end, end));
                due.noArgument("move, dx " + past, () -> x.move(0, past, 0));
                due.noArgument("move, dy " + past, () -> x.move(0, 0, past));
                due.yes("player " + end, () -> x.player(end, end, 1, 1));
                due.noArgument("player, x " + past, () -> x.player(past, 0, 1, 1));
                due.noArgument("player, y " + past, () -> x.player(0, past, 1, 1));
                x.player(0, 0, 1, 1);
                due.answer("step " + end, 1, () -> x.step(end, end, 1));
                due.noArgument("step, dx " + past, () -> x.step(-past, 0, 1));
                due.noArgument("step, dy " + past, () -> x.step(0, -past, 1));
            }
        });
    }

    private static void firstNamed() {
        all.sentence("Terms",
                "Methods throw what their comments name, the one named first when several would do.", due -> {
            SweptBoxes x = new SweptBoxes();
            due.noIndex("point: no shape, out of range", () -> x.point(0, 10001, 10001));
            due.noIndex("move: no box, out of range", () -> x.move(0, 10001, 10001));
            for (int n = 0; n < 16; n++) {
                x.shape();
                x.box(0, 0, 1, 1);
                x.point(0, 0, 0);
            }
            due.noIndex("point: no shape, out of range", () -> x.point(16, 10001, 10001));
            due.noState("point: 16 points, out of range", () -> x.point(0, 10001, 0));
            due.noState("point: 16 points, out of range", () -> x.point(0, 0, Long.MIN_VALUE));
            due.noState("box: 16 boxes, out of range", () -> x.box(-10001, 0, 1, 1));
            due.noState("box: 16 boxes, x0 above x1", () -> x.box(2, 0, 1, 1));
            due.noState("box: 16 boxes, y0 above y1", () -> x.box(0, 2, 1, 1));
            due.noIndex("move: no box, out of range", () -> x.move(16, 10001, 10001));
            x.player(370, 370, 64, 64);
            due.noIndex("tile: none, though the player is there", () -> x.tile(24, 23, true));
            due.noIndex("tile: none, though the player is there", () -> x.tile(23, 24, true));
            due.noState("tile: the player is there", () -> x.tile(23, 23, true));
        });
    }

    private static void noSuch() {
        SweptBoxes x = new SweptBoxes();
        x.shape();
        x.point(0, 1, 1);
        x.box(0, 0, 1, 1);
        x.step(1, 1, 1);
        String words = "IndexOutOfBoundsException: "
                + "there is no such shape, corner, axis, box, part, tile, sweep or what.";
        all.sentence("Terms", words, due -> {
            for (int w : Sentences.notBelow(1)) {
                due.noIndex("shape: point", () -> x.point(w, 0, 0));
                due.noIndex("shape: corners", () -> x.corners(w));
                due.noIndex("shape: corner", () -> x.corner(w, 0, 0));
                due.noIndex("shape: apart, a", () -> x.apart(w, 0));
                due.noIndex("shape: apart, b", () -> x.apart(0, w));
                due.noIndex("corner", () -> x.corner(0, w, 0));
                due.noIndex("box: move", () -> x.move(w, 0, 0));
                due.noIndex("box: touch, a", () -> x.touch(w, 0, 0));
                due.noIndex("box: touch, b", () -> x.touch(0, w, 0));
                due.noIndex("box: overlap, a", () -> x.overlap(w, 0, 0));
                due.noIndex("box: overlap, b", () -> x.overlap(0, w, 0));
                due.noIndex("sweep", () -> x.sweep(w, 0));
            }
            for (int w : Sentences.notBelow(2)) {
                due.noIndex("axis", () -> x.corner(0, 0, w));
                due.noIndex("part: touch", () -> x.touch(0, 0, w));
                due.noIndex("part: overlap", () -> x.overlap(0, 0, w));
            }
            for (int w : Sentences.notBelow(24)) {
                due.noIndex("tile, i", () -> x.tile(w, 0, true));
                due.noIndex("tile, j", () -> x.tile(0, w, true));
            }
            for (int w : Sentences.notBelow(4)) {
                due.noIndex("what: at", () -> x.at(w));
            }
            for (int w : Sentences.notBelow(6)) {
                due.noIndex("what: sweep", () -> x.sweep(0, w));
            }
        });
    }

    private static void staysAfter(String method, Consumer<Due> test) {
        all.sentence("Terms", "A call that throws changes nothing: " + method, test);
    }

    /** Room for one shape, one point of shape 0 and one box more; two sweeps in the latest step. */
    private static SweptBoxes nearlyFull() {
        SweptBoxes x = new SweptBoxes();
        for (int n = 0; n < 15; n++) {
            x.shape();
            x.point(0, n, (long) n * n);
            x.box(n, 0, n + 2, 2);
            x.move(n, n, -n);
        }
        x.tile(4, 4, true);
        x.player(50, 66, 8, 8);
        x.step(9, 5, 8);
        return x;
    }

    private static SweptBoxes full() {
        SweptBoxes x = nearlyFull();
        x.shape();
        x.point(0, 15, 225);
        x.box(0, 0, 1, 1);
        return x;
    }

    /** What a refused call leaves must answer as an object does that never had that call. */
    private static void stays(Due due, String call, Class<? extends RuntimeException> want,
            boolean whenFull, Consumer<SweptBoxes> refused) {
        SweptBoxes x = whenFull ? full() : nearlyFull();
        SweptBoxes twin = whenFull ? full() : nearlyFull();
        due.refusal(call, want, () -> refused.accept(x));
        for (int question = 0; question < 150; question++) {
            int q = question;
            long expected = orThrown(() -> ask(twin, q));
            due.answer("after " + call + ", question " + q, expected, () -> orThrown(() -> ask(x, q)));
        }
    }

    private static long orThrown(LongSupplier asked) {
        try {
            return asked.getAsLong();
        } catch (IndexOutOfBoundsException e) {
            return -100001;
        } catch (IllegalStateException e) {
            return -100002;
        } catch (IllegalArgumentException e) {
            return -100003;
        }
    }

    /** First what is there, then, from question 100 on, what it still takes. */
    private static long ask(SweptBoxes x, int q) {
        if (q < 17) {
            return x.corners(q);
        }
        if (q < 51) {
            return x.corner(0, (q - 17) / 2, (q - 17) % 2);
        }
        if (q < 67) {
            return x.overlap(0, q - 51, q % 2);
        }
        if (q < 71) {
            return x.at(q - 67);
        }
        if (q < 89) {
            return x.sweep((q - 71) / 6, (q - 71) % 6);
        }
        if (q < 100) {
            return x.tile(4, (q - 89) % 24, false) ? 1 : 0;
        }
        if (q < 117) {
            return x.move(q - 100, q - 100, 100 - q) ? 1 : 0;
        }
        switch (q % 5) {
            case 0:
                return x.shape();
            case 1:
                return x.point(0, -q, q) ? 1 : 0;
            case 2:
                return x.box(q, q, q, q);
            case 3:
                return x.step(q - 120, 120 - q, 8);
            default:
                return x.tile(q % 24, 4, true) ? 1 : 0;
        }
    }

    private static void noIndexStays(Due due, String call, Consumer<SweptBoxes> refused) {
        stays(due, call, IndexOutOfBoundsException.class, false, refused);
    }

    private static void noStateStays(Due due, String call, Consumer<SweptBoxes> refused) {
        stays(due, call, IllegalStateException.class, true, refused);
    }

    private static void noArgumentStays(Due due, String call, Consumer<SweptBoxes> refused) {
        stays(due, call, IllegalArgumentException.class, false, refused);
    }

    private static void shapesStay() {
        staysAfter("shape", due -> noStateStays(due, "shape()", x -> x.shape()));
        staysAfter("point", due -> {
            noIndexStays(due, "point(15, 1, 1)", x -> x.point(15, 1, 1));
            noIndexStays(due, "point(-1, 1, 1)", x -> x.point(-1, 1, 1));
            noStateStays(due, "point(0, -50, 50)", x -> x.point(0, -50, 50));
            noStateStays(due, "point(0, 5, 30)", x -> x.point(0, 5, 30));
            noArgumentStays(due, "point(0, 10001, 0)", x -> x.point(0, 10001, 0));
            noArgumentStays(due, "point(0, 0, -10001)", x -> x.point(0, 0, -10001));
        });
        staysAfter("corners, corner, apart", due -> {
            noIndexStays(due, "corners(15)", x -> x.corners(15));
            noIndexStays(due, "corner(0, 15, 0)", x -> x.corner(0, 15, 0));
            noIndexStays(due, "corner(0, 0, 2)", x -> x.corner(0, 0, 2));
            noIndexStays(due, "apart(0, 15)", x -> x.apart(0, 15));
        });
    }

    private static void boxesStay() {
        staysAfter("box", due -> {
            noStateStays(due, "box(3, 3, 4, 4)", x -> x.box(3, 3, 4, 4));
            noArgumentStays(due, "box(0, 0, 10001, 0)", x -> x.box(0, 0, 10001, 0));
            noArgumentStays(due, "box(2, 0, 1, 0)", x -> x.box(2, 0, 1, 0));
            noArgumentStays(due, "box(0, 2, 0, 1)", x -> x.box(0, 2, 0, 1));
        });
        staysAfter("move", due -> {
            noIndexStays(due, "move(15, 1, 1)", x -> x.move(15, 1, 1));
            noArgumentStays(due, "move(3, 10001, 5)", x -> x.move(3, 10001, 5));
            noArgumentStays(due, "move(3, 5, 10001)", x -> x.move(3, 5, 10001));
        });
        staysAfter("touch, overlap", due -> {
            noIndexStays(due, "touch(0, 15, 0)", x -> x.touch(0, 15, 0));
            noIndexStays(due, "touch(0, 1, 2)", x -> x.touch(0, 1, 2));
            noIndexStays(due, "overlap(15, 0, 0)", x -> x.overlap(15, 0, 0));
            noIndexStays(due, "overlap(0, 1, -1)", x -> x.overlap(0, 1, -1));
        });
    }

    private static void tilesStay() {
        staysAfter("tile", due -> {
            noIndexStays(due, "tile(24, 3, true)", x -> x.tile(24, 3, true));
            noIndexStays(due, "tile(4, 24, true)", x -> x.tile(4, 24, true));
            noStateStays(due, "tile(3, 4, true)", x -> x.tile(3, 4, true));
            SweptBoxes x = full();
            due.noState("tile(3, 4, true)", () -> x.tile(3, 4, true));
            due.no("it is not solid", () -> x.tile(3, 4, false));
        });
        staysAfter("player, at", due -> {
            noArgumentStays(due, "player(10001, 7, 7, 7)", x -> x.player(10001, 7, 7, 7));
            noArgumentStays(due, "player(7, -10001, 7, 7)", x -> x.player(7, -10001, 7, 7));
            noArgumentStays(due, "player(7, 7, 0, 7)", x -> x.player(7, 7, 0, 7));
            noArgumentStays(due, "player(7, 7, 7, 65)", x -> x.player(7, 7, 7, 65));
            noIndexStays(due, "at(4)", x -> x.at(4));
        });
    }

    private static void stepsStay() {
        staysAfter("step, sweep", due -> {
            noArgumentStays(due, "step(10001, 0, 8)", x -> x.step(10001, 0, 8));
            noArgumentStays(due, "step(1, -10001, 8)", x -> x.step(1, -10001, 8));
            noArgumentStays(due, "step(9945, 1, 8)", x -> x.step(9945, 1, 8));
            noArgumentStays(due, "step(1, 9930, 8)", x -> x.step(1, 9930, 8));
            noArgumentStays(due, "step(1, 1, 9)", x -> x.step(1, 1, 9));
            noArgumentStays(due, "step(1, 1, -1)", x -> x.step(1, 1, -1));
            noIndexStays(due, "sweep(2, 0)", x -> x.sweep(2, 0));
            noIndexStays(due, "sweep(0, 6)", x -> x.sweep(0, 6));
        });
    }
}
