import java.util.function.BooleanSupplier;
import java.util.function.LongSupplier;

/** Counts and prints every answer that is not the one that is due. */
final class Due {
    private int wrong = 0;
    private int calls = 0;

    void answer(String call, long want, LongSupplier asked) {
        calls++;
        try {
            long got = asked.getAsLong();
            if (got != want) {
                tell(call + " answered " + got + ", due is " + want);
            }
        } catch (RuntimeException e) {
            tell(call + " threw " + e + ", due is " + want);
        }
    }

    void yes(String call, BooleanSupplier asked) {
        answer(call, 1, () -> asked.getAsBoolean() ? 1 : 0);
    }

    void no(String call, BooleanSupplier asked) {
        answer(call, 0, () -> asked.getAsBoolean() ? 1 : 0);
    }

    void refusal(String call, Class<? extends RuntimeException> want, Runnable asked) {
        calls++;
        try {
            asked.run();
            tell(call + " threw nothing, due is " + want.getSimpleName());
        } catch (RuntimeException e) {
            if (e.getClass() != want) {
                tell(call + " threw " + e + ", due is " + want.getSimpleName());
            }
        }
    }

    void truth(String call, boolean want, BooleanSupplier asked) {
        answer(call, want ? 1 : 0, () -> asked.getAsBoolean() ? 1 : 0);
    }

    void noIndex(String call, Runnable asked) {
        refusal(call, IndexOutOfBoundsException.class, asked);
    }

    void noState(String call, Runnable asked) {
        refusal(call, IllegalStateException.class, asked);
    }

    void noArgument(String call, Runnable asked) {
        refusal(call, IllegalArgumentException.class, asked);
    }

    int calls() {
        return calls;
    }

    int wrong() {
        return wrong;
    }

    void tell(String text) {
        wrong++;
        if (wrong <= 50) {
            System.out.println(text);
        }
    }

    void end() {
        System.out.println(calls + " calls, " + wrong + " not as due");
        if (wrong != 0) {
            System.exit(1);
        }
    }
}
