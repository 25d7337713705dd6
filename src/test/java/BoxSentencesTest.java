/** The sentences on boxes, in the document's order: Terms, section 2, and promises 7 to 10. */
public final class BoxSentencesTest {
    private static final String TERMS = "Terms, 2 BOXES";
    private static final long[] A = {0, 0, 4, 4};
    private static final Sentences all = new Sentences();

    public static void main(String[] args) {
        fractions();
        corners();
        times();
        touching();
        overlapping();
        firstOverlap();
        box();
        boxRefusals();
        move();
        moveRefusals();
        meetings();
        all.end();
    }

    private static long[] row(long... numbers) {
        return numbers;
    }

    /** Rows of x0, y0, x1, y1 and, where there is one, dx, dy. */
    private static SweptBoxes boxes(long[]... rows) {
        SweptBoxes x = new SweptBoxes();
        for (int n = 0; n < rows.length; n++) {
            long[] r = rows[n];
            x.box(r[0], r[1], r[2], r[3]);
            if (r.length > 4) {
                x.move(n, r[4], r[5]);
            }
        }
        return x;
    }

    private static void touch(Due due, String what, long upper, long lower, long[] a, long[] b) {
        SweptBoxes x = boxes(a, b);
        due.answer(what + ": touch(0, 1, 0)", upper, () -> x.touch(0, 1, 0));
        due.answer(what + ": touch(0, 1, 1)", lower, () -> x.touch(0, 1, 1));
        due.answer(what + ": touch(1, 0, 0)", upper, () -> x.touch(1, 0, 0));
        due.answer(what + ": touch(1, 0, 1)", lower, () -> x.touch(1, 0, 1));
    }

    private static void overlap(Due due, String what, long upper, long lower, long[] a, long[] b) {
        SweptBoxes x = boxes(a, b);
        due.answer(what + ": overlap(0, 1, 0)", upper, () -> x.overlap(0, 1, 0));
        due.answer(what + ": overlap(0, 1, 1)", lower, () -> x.overlap(0, 1, 1));
        due.answer(what + ": overlap(1, 0, 0)", upper, () -> x.overlap(1, 0, 0));
        due.answer(what + ": overlap(1, 0, 1)", lower, () -> x.overlap(1, 0, 1));
    }

    private static void noTouch(Due due, String what, long[] a, long[] b) {
        touch(due, what, SweptBoxes.NONE, 1, a, b);
    }

    private static void noOverlap(Due due, String what, long[] a, long[] b) {
        overlap(due, what, SweptBoxes.NONE, 1, a, b);
    }

    private static void fractions() {
        all.sentence("Terms",
                "FRACTIONS are told in two PARTS, 0 the upper and 1 the lower number", due -> {
            touch(due, "3 of 7", 3, 7, row(0, 0, 4, 4, 7, 0), row(7, 0, 9, 4));
            overlap(due, "3 of 7", 3, 7, row(0, 0, 4, 4, 7, 0), row(7, 0, 9, 4));
        });
        all.sentence("Terms", "in lowest terms", due -> {
            touch(due, "8 of 12", 2, 3, row(0, 0, 2, 2, 12, 0), row(10, 0, 12, 2));
            overlap(due, "8 of 12", 2, 3, row(0, 0, 2, 2, 12, 0), row(10, 0, 12, 2));
            touch(due, "0 of 6", 0, 1, row(0, 0, 4, 4, 6, 0), row(4, 0, 9, 4));
            overlap(due, "0 of 6", 0, 1, row(0, 0, 4, 4, 6, 0), row(4, 0, 9, 4));
            touch(due, "5 of 5", 1, 1, row(0, 0, 4, 4, 5, 0), row(9, 0, 12, 4));
            touch(due, "10000 of 20000", 1, 2, row(-5000, 0, -5000, 0, 10000, 0),
                    row(5000, 0, 5000, 0, -10000, 0));
            overlap(due, "19998 of 20000", 9999, 10000, row(-10000, 0, -9999, 1, 10000, 0),
                    row(9999, 0, 10000, 1, -10000, 0));
            overlap(due, "19997 of 19999, in lowest terms already", 19997, 19999,
                    row(-10000, 0, -9998, 1, 9999, 0), row(9999, 0, 10000, 1, -10000, 0));
        });
        all.sentence("Terms", "the lower one above 0", due -> {
            touch(due, "towards lesser x", 2, 3, row(10, 0, 14, 4, -9, 0), row(0, 0, 4, 4));
            overlap(due, "towards lesser y", 2, 3, row(0, 10, 4, 14, 0, -9), row(0, 0, 4, 4));
            noTouch(due, "none, moving to lesser x", row(10, 0, 14, 4, -5, 0), row(0, 0, 4, 4));
            noOverlap(due, "none, moving to lesser y", row(0, 10, 4, 14, 0, -5), row(0, 0, 4, 4));
        });
    }

    private static void corners() {
        all.sentence(TERMS, "(x0 at most x1, y0 at most y1)", due -> {
            SweptBoxes x = new SweptBoxes();
            due.answer("x0 equal to x1", 0, () -> x.box(5, 0, 5, 9));
            due.answer("y0 equal to y1", 1, () -> x.box(0, 5, 9, 5));
            due.answer("both", 2, () -> x.box(-3, -3, -3, -3));
            due.noArgument("x0 above x1 by 1", () -> x.box(6, 0, 5, 9));
            due.noArgument("y0 above y1 by 1", () -> x.box(0, 6, 9, 5));
        });
    }

    private static void times() {
        all.sentence(TERMS,
                "at time t from 0 to 1 it is t times the move away from where it is", due -> {
            touch(due, "just there at 1", 1, 1, row(0, 0, 4, 4, 6, 0), row(10, 0, 12, 4));
            noTouch(due, "not yet there at 1", row(0, 0, 4, 4, 5, 0), row(10, 0, 12, 4));
            noTouch(due, "was there before 0", row(0, 0, 4, 4, 6, 0), row(-8, 0, -2, 4));
            touch(due, "just left at 0", 0, 1, row(0, 0, 4, 4, 6, 0), row(-8, 0, 0, 4));
            touch(due, "there in x and y at one time", 1, 5, row(0, 0, 4, 4, 5, 10), row(5, 6, 6, 6));
            overlap(due, "both move", 1, 5, row(0, 0, 4, 4, 3, 1), row(5, 1, 9, 3, -2, 1));
            noTouch(due, "both move alike", row(0, 0, 4, 4, 9, 9), row(5, 0, 9, 4, 9, 9));
            noOverlap(due, "gone in y before it comes in x", row(0, 0, 4, 4, 9, 9), row(8, 0, 12, 3));
            noTouch(due, "gone in y before it comes and goes in x", row(0, 0, 1, 1, 10, 10), row(6, 3, 7, 4));
            noTouch(due, "gone in x before it comes and goes in y", row(0, 0, 1, 1, 10, 10), row(3, 6, 4, 7));
            noTouch(due, "gone in x at 0, before it comes in y", row(0, 0, 4, 4, -2, 10), row(4, 6, 8, 8));
            noTouch(due, "gone in y at 0, before it comes in x", row(0, 0, 4, 4, 10, -2), row(6, 4, 8, 8));
            touch(due, "by 1 in x, there at 1", 1, 1, row(0, 0, 4, 4, 1, 0), row(5, 0, 9, 4));
            touch(due, "by -1 in y, there at 1", 1, 1, row(0, 5, 4, 9, 0, -1), row(0, 0, 4, 4));
            noTouch(due, "by 1 in x, not yet there at 1", row(0, 0, 4, 4, 1, 0), row(6, 0, 9, 4));
            noTouch(due, "by -1 in y, not yet there at 1", row(0, 6, 4, 9, 0, -1), row(0, 0, 4, 4));
        });
    }

    private static void touching() {
        all.sentence(TERMS,
                "Two boxes TOUCH at a time if they have a point in common then, edges too", due -> {
            touch(due, "edge at edge in x", 0, 1, A, row(4, 1, 9, 3));
            touch(due, "edge at edge in y", 0, 1, A, row(1, -5, 3, 0));
            touch(due, "corner at corner", 0, 1, A, row(4, 4, 9, 9));
            touch(due, "the other corners", 0, 1, A, row(-9, 4, 0, 9));
            touch(due, "one in the midst of the other", 0, 1, A, row(1, 1, 2, 2));
            touch(due, "a point in the midst", 0, 1, A, row(2, 2, 2, 2));
            touch(due, "a point at a corner", 0, 1, A, row(4, 0, 4, 0));
            touch(due, "equal points", 0, 1, row(7, 7, 7, 7), row(7, 7, 7, 7));
            noTouch(due, "a gap of 1 in x", A, row(5, 0, 9, 4));
            noTouch(due, "a gap of 1 in y", A, row(0, 5, 4, 9));
            touch(due, "along an edge in passing", 1, 3, row(0, 0, 2, 2, 9, 0), row(5, 2, 7, 4));
        });
        all.sentence(TERMS, "The FIRST TOUCH is the least time at which they touch", due -> {
            touch(due, "all the while", 0, 1, row(0, 0, 4, 4, 1, 1), row(1, 1, 9, 9));
            touch(due, "right through", 3, 10000, row(0, 0, 2, 2, 10000, 0), row(5, 0, 7, 2));
            touch(due, "the later of both axes", 4, 11, row(0, 0, 1, 1, 7, 11), row(3, 5, 9, 9));
            touch(due, "at one time only", 2, 3, row(0, 0, 2, 2, 6, 6), row(6, 2, 8, 4));
        });
    }

    private static void overlapping() {
        all.sentence(TERMS,
                "they OVERLAP if points in the midst of both (not on edges) are in common", due -> {
            noOverlap(due, "edge at edge in x", A, row(4, 0, 9, 4));
            noOverlap(due, "edge at edge in y", A, row(0, -5, 4, 0));
            noOverlap(due, "corner at corner", A, row(4, 4, 9, 9));
            overlap(due, "by 1", 0, 1, A, row(3, 3, 9, 9));
            overlap(due, "equal boxes", 0, 1, A, A);
            overlap(due, "one in the midst of the other", 0, 1, A, row(1, 1, 2, 2));
            overlap(due, "a cross", 0, 1, A, row(-5, 1, 9, 2));
            noOverlap(due, "one without width, in the midst", A, row(2, 1, 2, 3));
            noOverlap(due, "one without height, in the midst", A, row(1, 2, 3, 2));
            noOverlap(due, "a point in the midst", A, row(2, 2, 2, 2));
            noOverlap(due, "one without height that moves through", row(1, 9, 3, 9, 0, -9), A);
            noOverlap(due, "one without width that moves through", row(9, 1, 9, 3, -9, 0), A);
            noOverlap(due, "along an edge", row(0, 0, 2, 2, 9, 0), row(5, 2, 7, 4));
            noOverlap(due, "edge at edge, moving alike", row(0, 0, 4, 4, 7, -9), row(4, 1, 9, 3, 7, -9));
        });
    }

    private static void firstOverlap() {
        all.sentence(TERMS,
                "the FIRST OVERLAP the greatest time before which, from 0 on, they never overlap", due -> {
            overlap(due, "they touch then, and overlap behind it", 1, 2, row(0, 0, 2, 2, 6, 0), row(5, 0, 7, 2));
            overlap(due, "they touch at 0, and overlap behind it", 0, 1, row(0, 0, 2, 2, 1, 1), row(2, 2, 4, 4));
            overlap(due, "along the edge in x, then in by y", 0, 1, row(0, 0, 2, 2, 0, 1), row(1, 2, 4, 4));
            overlap(due, "the later of both axes", 4, 11, row(0, 0, 1, 1, 7, 11), row(3, 5, 9, 9));
            overlap(due, "right through", 3, 10000, row(0, 0, 2, 2, 10000, 0), row(5, 0, 7, 2));
        });
        all.sentence(TERMS, "if they do at some time from 0 to 1", due -> {
            noOverlap(due, "just up to it at 1", row(0, 0, 2, 2, 3, 0), row(5, 0, 7, 2));
            overlap(due, "in by 1 at 1", 3, 4, row(0, 0, 2, 2, 4, 0), row(5, 0, 7, 2));
            noOverlap(due, "away from what it touches at 0", row(0, 0, 2, 2, -3, 0), row(2, 0, 4, 2));
            noOverlap(due, "was over it before 0", row(0, 0, 2, 2, 5, 0), row(-4, 0, -1, 2));
            noOverlap(due, "corner by corner in passing", row(0, 0, 2, 2, 6, 6), row(6, 2, 8, 4));
            noOverlap(due, "off by the corner that it touches at 0", row(0, 0, 2, 2, -1, 3), row(2, 2, 4, 4));
        });
        all.sentence(TERMS, "(0 if they do at 0)", due -> {
            overlap(due, "still", 0, 1, A, row(3, 3, 9, 9));
            overlap(due, "and goes", 0, 1, row(0, 0, 4, 4, -9, -9), row(3, 3, 9, 9));
            overlap(due, "and goes through", 0, 1, row(0, 0, 4, 4, 9, 9), row(3, 3, 5, 5));
        });
    }

    private static void box() {
        all.sentence("Promise 7: box", "A new box without a move: its number.", due -> {
            SweptBoxes x = new SweptBoxes();
            for (int n = 0; n < 16; n++) {
                int number = n;
                due.answer("box " + n, n, () -> x.box(number, 0, number, 0));
                due.no("no move", () -> x.move(number, 0, 0));
                x.move(n, 1, 1);
            }
            x.clear();
            due.answer("box 0 after clear", 0, () -> x.box(0, 0, 1, 1));
            due.no("no move after clear", () -> x.move(0, 0, 0));
        });
        all.sentence("Promise 7: box", "IllegalStateException: there are 16", due -> {
            SweptBoxes x = new SweptBoxes();
            for (int n = 0; n < 15; n++) {
                x.box(0, 0, 1, 1);
            }
            due.answer("the 16th", 15, () -> x.box(0, 0, 1, 1));
            due.noState("the 17th", () -> x.box(0, 0, 1, 1));
            due.noState("the 17th, asked again", () -> x.box(0, 0, 1, 1));
            due.noIndex("there is no box 16", () -> x.move(16, 0, 0));
        });
    }

    private static void boxRefusals() {
        all.sentence("Promise 7: box", "IllegalArgumentException: out of range", due -> {
            SweptBoxes x = new SweptBoxes();
            for (long far : Sentences.tooFar()) {
                long low = Math.min(far, -10000);
                long high = Math.max(far, 10000);
                due.noArgument("x0 " + far, () -> x.box(far, 0, high, 0));
                due.noArgument("y0 " + far, () -> x.box(0, far, 0, high));
                due.noArgument("x1 " + far, () -> x.box(low, 0, far, 0));
                due.noArgument("y1 " + far, () -> x.box(0, low, 0, far));
            }
            due.noArgument("x1 10001 alone", () -> x.box(0, 0, 10001, 0));
            due.noArgument("y1 10001 alone", () -> x.box(0, 0, 0, 10001));
            due.noArgument("x0 -10001 alone", () -> x.box(-10001, 0, 0, 0));
            due.noArgument("y0 -10001 alone", () -> x.box(0, -10001, 0, 0));
            due.answer("from end to end", 0, () -> x.box(-10000, -10000, 10000, 10000));
            due.answer("at one end", 1, () -> x.box(10000, -10000, 10000, -10000));
        });
        all.sentence("Promise 7: box", "or x0 above x1", due -> {
            SweptBoxes x = new SweptBoxes();
            due.noArgument("by 1", () -> x.box(1, 0, 0, 9));
            due.noArgument("by all", () -> x.box(10000, 0, -10000, 9));
            due.answer("equal", 0, () -> x.box(1, 0, 1, 9));
        });
        all.sentence("Promise 7: box", "or y0 above y1.", due -> {
            SweptBoxes x = new SweptBoxes();
            due.noArgument("by 1", () -> x.box(0, 1, 9, 0));
            due.noArgument("by all", () -> x.box(0, 10000, 9, -10000));
            due.answer("equal", 0, () -> x.box(0, 1, 9, 1));
        });
    }

    private static void move() {
        all.sentence("Promise 8: move",
                "A box's move: whether it is another one than before.", due -> {
            SweptBoxes x = boxes(A, A);
            due.no("none, as at first", () -> x.move(0, 0, 0));
            due.yes("another dx", () -> x.move(0, 3, 0));
            due.no("the same", () -> x.move(0, 3, 0));
            due.yes("another dy", () -> x.move(0, 3, 5));
            due.yes("turned round", () -> x.move(0, 5, 3));
            due.yes("the other way", () -> x.move(0, -5, -3));
            due.no("of the other box none", () -> x.move(1, 0, 0));
            due.yes("none again", () -> x.move(0, 0, 0));
            due.no("none still", () -> x.move(0, 0, 0));
        });
    }

    private static void moveRefusals() {
        all.sentence("Promise 8: move", "IndexOutOfBoundsException", due -> {
            SweptBoxes x = new SweptBoxes();
            due.noIndex("box 0 of none", () -> x.move(0, 0, 0));
            x.box(0, 0, 1, 1);
            for (int w : Sentences.notBelow(1)) {
                due.noIndex("box " + w, () -> x.move(w, 0, 0));
            }
        });
        all.sentence("Promise 8: move", "IllegalArgumentException: out of range.", due -> {
            SweptBoxes x = boxes(A);
            for (long far : Sentences.tooFar()) {
                due.noArgument("dx " + far, () -> x.move(0, far, 0));
                due.noArgument("dy " + far, () -> x.move(0, 0, far));
            }
            due.yes("greatest dx, least dy", () -> x.move(0, 10000, -10000));
            due.yes("least dx, greatest dy", () -> x.move(0, -10000, 10000));
        });
    }

    private static void meetings() {
        all.sentence("Promise 9: touch",
                "The first touch of two boxes; part 0 and 1: NONE and 1 without one.", due -> {
            touch(due, "one", 2, 5, row(0, 0, 4, 4, 5, 0), row(6, 0, 9, 4));
            touch(due, "where there is no overlap", 2, 5, row(0, 0, 4, 4, 5, 0), row(6, 4, 9, 8));
            noTouch(due, "none", A, row(6, 0, 9, 4));
            SweptBoxes x = boxes(row(0, 0, 4, 4, 9, 9), row(3, 3, 3, 3, 9, 9));
            for (int n = 0; n < 2; n++) {
                int same = n;
                due.answer("box " + n + " touches itself", 0, () -> x.touch(same, same, 0));
                due.answer("box " + n + " touches itself", 1, () -> x.touch(same, same, 1));
            }
        });
        all.sentence("Promise 9: touch", "IndexOutOfBoundsException.", due -> {
            SweptBoxes x = new SweptBoxes();
            due.noIndex("none at all", () -> x.touch(0, 0, 0));
            x.box(0, 0, 1, 1);
            for (int w : Sentences.notBelow(1)) {
                due.noIndex("a is " + w, () -> x.touch(w, 0, 0));
                due.noIndex("b is " + w, () -> x.touch(0, w, 0));
            }
            for (int w : Sentences.notBelow(2)) {
                due.noIndex("part " + w, () -> x.touch(0, 0, w));
            }
        });
        all.sentence("Promise 10: overlap",
                "The first overlap of two boxes; part 0 and 1: NONE and 1 without one.", due -> {
            overlap(due, "one", 2, 5, row(0, 0, 4, 4, 5, 0), row(6, 0, 9, 4));
            noOverlap(due, "a touch alone", row(0, 0, 4, 4, 5, 0), row(6, 4, 9, 8));
            noOverlap(due, "none", A, row(6, 0, 9, 4));
            SweptBoxes x = boxes(row(0, 0, 4, 4, 9, 9), row(3, 3, 3, 3, 9, 9));
            due.answer("a box overlaps itself", 0, () -> x.overlap(0, 0, 0));
            due.answer("a box overlaps itself", 1, () -> x.overlap(0, 0, 1));
            due.answer("a point has no midst", SweptBoxes.NONE, () -> x.overlap(1, 1, 0));
            due.answer("a point has no midst", 1, () -> x.overlap(1, 1, 1));
        });
        all.sentence("Promise 10: overlap", "IndexOutOfBoundsException.", due -> {
            SweptBoxes x = new SweptBoxes();
            due.noIndex("none at all", () -> x.overlap(0, 0, 0));
            x.box(0, 0, 1, 1);
            for (int w : Sentences.notBelow(1)) {
                due.noIndex("a is " + w, () -> x.overlap(w, 0, 0));
                due.noIndex("b is " + w, () -> x.overlap(0, w, 0));
            }
            for (int w : Sentences.notBelow(2)) {
                due.noIndex("part " + w, () -> x.overlap(0, 0, w));
            }
        });
    }
}
