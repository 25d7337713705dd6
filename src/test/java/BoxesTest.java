/** Promises 7 to 10, by runs written out. */
public final class BoxesTest {
    private static final Due due = new Due();
    private static final long[] STILL = {0, 0};

    public static void main(String[] args) {
        numbersAndLimit();
        boxRefusals();
        moves();
        stillBoxes();
        movingBoxes();
        fractions();
        overlapAtCorners();
        boxesWithoutMidst();
        meetingRefusals();
        oneBoxWithItself();
        due.end();
    }

    private static void numbersAndLimit() {
        SweptBoxes x = new SweptBoxes();
        for (int n = 0; n < 16; n++) {
            due.answer("box() " + n, n, () -> x.box(0, 0, 1, 1));
        }
        due.noState("box 16", () -> x.box(0, 0, 1, 1));
        due.noState("box 16, wrong too", () -> x.box(5, 0, 1, 1));
        due.noState("box 16, out of range too", () -> x.box(-20000, 0, 1, 1));
        due.answer("touch(15, 0)", 0, () -> x.touch(15, 0, 0));
    }

    private static void boxRefusals() {
        SweptBoxes x = new SweptBoxes();
        long[] far = {10001, -10001, Long.MAX_VALUE, Long.MIN_VALUE};
        for (long f : far) {
            due.noArgument("x0 " + f, () -> x.box(f, 0, 10000, 0));
            due.noArgument("y0 " + f, () -> x.box(0, f, 0, 10000));
            due.noArgument("x1 " + f, () -> x.box(-10000, 0, f, 0));
            due.noArgument("y1 " + f, () -> x.box(0, -10000, 0, f));
        }
        due.noArgument("x0 above x1", () -> x.box(1, 0, 0, 0));
        due.noArgument("y0 above y1", () -> x.box(0, 1, 0, 0));
        due.answer("none was made", 0, () -> x.box(-10000, -10000, 10000, 10000));
        due.answer("a single point", 1, () -> x.box(3, 3, 3, 3));
    }

    private static void moves() {
        SweptBoxes x = new SweptBoxes();
        due.noIndex("move without boxes", () -> x.move(0, 0, 0));
        x.box(0, 0, 1, 1);
        due.no("as at first", () -> x.move(0, 0, 0));
        due.yes("another dx", () -> x.move(0, 10000, 0));
        due.no("the same", () -> x.move(0, 10000, 0));
        due.yes("another dy", () -> x.move(0, 10000, -10000));
        due.no("the same again", () -> x.move(0, 10000, -10000));
        due.noArgument("dx too great", () -> x.move(0, 10001, 0));
        due.noArgument("dx too small", () -> x.move(0, -10001, 0));
        due.noArgument("dy too great", () -> x.move(0, 0, Long.MAX_VALUE));
        due.noArgument("dy too small", () -> x.move(0, 0, Long.MIN_VALUE));
        due.noIndex("box 1, out of range too", () -> x.move(1, 10001, 0));
        due.noIndex("box -1", () -> x.move(-1, 0, 0));
        due.no("unchanged by what was refused", () -> x.move(0, 10000, -10000));
    }

    private static SweptBoxes two(long[] a, long[] moveA, long[] b, long[] moveB) {
        SweptBoxes x = new SweptBoxes();
        x.box(a[0], a[1], a[2], a[3]);
        x.box(b[0], b[1], b[2], b[3]);
        x.move(0, moveA[0], moveA[1]);
        x.move(1, moveB[0], moveB[1]);
        return x;
    }

    private static void touch(String what, long upper, long lower, SweptBoxes x) {
        due.answer(what + ": touch, upper", upper, () -> x.touch(0, 1, 0));
        due.answer(what + ": touch, lower", lower, () -> x.touch(0, 1, 1));
        due.answer(what + ": touch turned round, upper", upper, () -> x.touch(1, 0, 0));
        due.answer(what + ": touch turned round, lower", lower, () -> x.touch(1, 0, 1));
    }

    private static void overlap(String what, long upper, long lower, SweptBoxes x) {
        due.answer(what + ": overlap, upper", upper, () -> x.overlap(0, 1, 0));
        due.answer(what + ": overlap, lower", lower, () -> x.overlap(0, 1, 1));
        due.answer(what + ": overlap turned round, upper", upper, () -> x.overlap(1, 0, 0));
        due.answer(what + ": overlap turned round, lower", lower, () -> x.overlap(1, 0, 1));
    }

    private static void stillBoxes() {
        long[] a = {0, 0, 4, 4};
        SweptBoxes over = two(a, STILL, new long[] {3, 3, 9, 9}, STILL);
        touch("one over the other", 0, 1, over);
        overlap("one over the other", 0, 1, over);
        SweptBoxes edge = two(a, STILL, new long[] {4, 1, 9, 3}, STILL);
        touch("edge at edge", 0, 1, edge);
        overlap("edge at edge", -1, 1, edge);
        SweptBoxes corner = two(a, STILL, new long[] {4, 4, 9, 9}, STILL);
        touch("corner at corner", 0, 1, corner);
        overlap("corner at corner", -1, 1, corner);
        SweptBoxes away = two(a, STILL, new long[] {5, 0, 9, 9}, STILL);
        touch("a gap in x", -1, 1, away);
        overlap("a gap in x", -1, 1, away);
        SweptBoxes above = two(a, STILL, new long[] {0, 5, 9, 9}, STILL);
        touch("a gap in y", -1, 1, above);
        overlap("a gap in y", -1, 1, above);
        SweptBoxes same = two(a, new long[] {7, -9}, new long[] {4, 1, 9, 3}, new long[] {7, -9});
        touch("edge at edge, moving together", 0, 1, same);
        overlap("edge at edge, moving together", -1, 1, same);
    }

    private static void movingBoxes() {
        long[] a = {0, 0, 2, 2};
        long[] b = {5, 0, 7, 2};
        SweptBoxes into = two(a, new long[] {6, 0}, b, STILL);
        touch("into", 1, 2, into);
        overlap("into", 1, 2, into);
        SweptBoxes barely = two(a, new long[] {3, 0}, b, STILL);
        touch("just up to", 1, 1, barely);
        overlap("just up to", -1, 1, barely);
        SweptBoxes shy = two(a, new long[] {2, 0}, b, STILL);
        touch("not up to", -1, 1, shy);
        overlap("not up to", -1, 1, shy);
        SweptBoxes off = two(a, new long[] {-6, 0}, b, STILL);
        touch("away", -1, 1, off);
        overlap("away", -1, 1, off);
        SweptBoxes both = two(a, new long[] {2, 0}, b, new long[] {-4, 0});
        touch("towards each other", 1, 2, both);
        overlap("towards each other", 1, 2, both);
        SweptBoxes leave = two(a, new long[] {-1, 0}, new long[] {2, 0, 4, 2}, STILL);
        touch("leaves what it touched", 0, 1, leave);
        overlap("leaves what it touched", -1, 1, leave);
        SweptBoxes drawnOff = two(a, new long[] {-9, 0}, new long[] {1, 0, 4, 2}, STILL);
        touch("leaves what it lay over", 0, 1, drawnOff);
        overlap("leaves what it lay over", 0, 1, drawnOff);
        SweptBoxes along = two(a, new long[] {9, 0}, new long[] {5, 2, 7, 4}, STILL);
        touch("along an edge", 1, 3, along);
        overlap("along an edge", -1, 1, along);
        SweptBoxes through = two(a, new long[] {10000, 0}, b, STILL);
        touch("right through", 3, 10000, through);
        overlap("right through", 3, 10000, through);
        SweptBoxes past = two(a, new long[] {10, 10}, new long[] {6, 0, 8, 2}, STILL);
        touch("x comes after y has gone", -1, 1, past);
        overlap("x comes after y has gone", -1, 1, past);
    }

    private static void fractions() {
        SweptBoxes lowest = two(new long[] {0, 0, 2, 2}, new long[] {12, 0},
                new long[] {10, 0, 12, 2}, STILL);
        touch("8/12", 2, 3, lowest);
        overlap("8/12", 2, 3, lowest);
        SweptBoxes later = two(new long[] {0, 0, 1, 1}, new long[] {7, 11},
                new long[] {3, 5, 9, 9}, STILL);
        touch("2/7 in x, 4/11 in y", 4, 11, later);
        overlap("2/7 in x, 4/11 in y", 4, 11, later);
        SweptBoxes far = two(new long[] {-10000, -10000, -9999, -9999}, new long[] {10000, 10000},
                new long[] {9999, 9998, 10000, 10000}, new long[] {-10000, -9999});
        touch("at the ends", 9999, 10000, far);
        overlap("at the ends", 9999, 10000, far);
        SweptBoxes negative = two(new long[] {0, 0, 1, 1}, new long[] {0, -9},
                new long[] {0, -7, 1, -6}, STILL);
        touch("downwards", 2, 3, negative);
        overlap("downwards", 2, 3, negative);
    }

    private static void overlapAtCorners() {
        long[] a = {0, 0, 2, 2};
        long[] b = {2, 2, 4, 4};
        SweptBoxes in = two(a, new long[] {1, 1}, b, STILL);
        touch("in by the corner", 0, 1, in);
        overlap("in by the corner", 0, 1, in);
        SweptBoxes side = two(a, new long[] {-1, 3}, b, STILL);
        overlap("off by the corner", -1, 1, side);
        SweptBoxes round = two(a, new long[] {6, 6}, new long[] {6, 2, 8, 4}, STILL);
        touch("corner over corner in passing", 2, 3, round);
        overlap("corner over corner in passing", -1, 1, round);
        SweptBoxes front = two(a, new long[] {6, 6}, new long[] {5, 5, 8, 8}, STILL);
        touch("corner on corner", 1, 2, front);
        overlap("corner on corner", 1, 2, front);
    }

    private static void boxesWithoutMidst() {
        long[] a = {0, 0, 4, 4};
        SweptBoxes thin = two(a, STILL, new long[] {2, 1, 2, 3}, STILL);
        touch("a thin one within", 0, 1, thin);
        overlap("a thin one within", -1, 1, thin);
        SweptBoxes flat = two(a, new long[] {5, 5}, new long[] {5, 5, 8, 5}, STILL);
        touch("a flat one met", 1, 5, flat);
        overlap("a flat one met", -1, 1, flat);
        SweptBoxes point = two(new long[] {9, 9, 9, 9}, new long[] {-10, -10}, a, STILL);
        touch("a point that moves through", 1, 2, point);
        overlap("a point that moves through", -1, 1, point);
        SweptBoxes points = two(new long[] {1, 1, 1, 1}, new long[] {4, 2},
                new long[] {4, 1, 4, 1}, new long[] {0, 3});
        touch("two points that miss", -1, 1, points);
        SweptBoxes crossing = two(new long[] {1, 1, 1, 1}, new long[] {6, 2},
                new long[] {4, 1, 4, 1}, new long[] {0, 2});
        touch("two points that hit", 1, 2, crossing);
        overlap("two points that hit", -1, 1, crossing);
    }

    private static void meetingRefusals() {
        SweptBoxes x = new SweptBoxes();
        due.noIndex("touch without boxes", () -> x.touch(0, 0, 0));
        due.noIndex("overlap without boxes", () -> x.overlap(0, 0, 0));
        x.box(0, 0, 1, 1);
        int[][] wrong = {{1, 0, 0}, {0, 1, 0}, {-1, 0, 0}, {0, -1, 0}, {0, 0, 2}, {0, 0, -1}};
        for (int[] w : wrong) {
            due.noIndex("touch", () -> x.touch(w[0], w[1], w[2]));
            due.noIndex("overlap", () -> x.overlap(w[0], w[1], w[2]));
        }
    }

    private static void oneBoxWithItself() {
        SweptBoxes x = new SweptBoxes();
        x.box(0, 0, 1, 1);
        x.box(0, 0, 1, 0);
        x.move(0, 5, 5);
        due.answer("touch itself", 0, () -> x.touch(0, 0, 0));
        due.answer("touch itself", 1, () -> x.touch(0, 0, 1));
        due.answer("overlap itself", 0, () -> x.overlap(0, 0, 0));
        due.answer("overlap itself", 1, () -> x.overlap(0, 0, 1));
        due.answer("a flat one touches itself", 0, () -> x.touch(1, 1, 0));
        due.answer("a flat one has no midst", -1, () -> x.overlap(1, 1, 0));
    }
}
