import java.util.function.Consumer;

/** A test of its own for each sentence of the document, so that it tells which one is broken. */
final class Sentences {
    /** Numbers that no row of the program has, the wrap-around ones among them. */
    private static final int[] FAR_OFF = {-1, Integer.MIN_VALUE, Integer.MAX_VALUE};
    /** Just out of range, and so far out that an int or a sum would wrap round to something small. */
    private static final long[] TOO_FAR = {10001, -10001, 1L << 32, -(1L << 32), (1L << 32) + 1,
        Integer.MIN_VALUE, Long.MAX_VALUE, Long.MIN_VALUE, Long.MIN_VALUE + 1};

    private int told = 0;
    private int broken = 0;

    /** Where: a heading of the document; words: what stands there. */
    void sentence(String where, String words, Consumer<Due> test) {
        Due due = new Due();
        told++;
        try {
            test.accept(due);
        } catch (RuntimeException e) {
            due.tell("a call that should answer threw " + e);
        }
        if (due.calls() == 0) {
            due.tell("nothing was asked");
        }
        if (due.wrong() > 0) {
            broken++;
            System.out.println("BROKEN: " + where + ": " + words);
        }
    }

    void end() {
        System.out.println(told + " sentences, " + broken + " broken");
        if (broken != 0) {
            System.exit(1);
        }
    }

    /** The numbers next to 0 .. count - 1, and some far off. */
    static int[] notBelow(int count) {
        int[] wrong = new int[FAR_OFF.length + 1];
        System.arraycopy(FAR_OFF, 0, wrong, 0, FAR_OFF.length);
        wrong[FAR_OFF.length] = count;
        return wrong;
    }

    static long[] tooFar() {
        return TOO_FAR.clone();
    }
}
