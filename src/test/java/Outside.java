import java.util.function.IntToLongFunction;

/** Asks a call with numbers just outside and far outside of what it takes. */
final class Outside {
    private Outside() {
    }

    static void of(String name, int low, int high, long due, IntToLongFunction call) {
        int[] outside = {Integer.MIN_VALUE, low - 65536, low - 1024, low - 2, low - 1, high + 1, high + 2, high + 1024,
            high + 65536, 1 << 30, Integer.MAX_VALUE};
        for (int n : outside) {
            Due.is(name + " of " + n, call.applyAsLong(n), due);
        }
    }
}
