import java.util.TreeSet;

/** Numbers outside a bound. */
final class Bounds {
    private Bounds() {
    }

    /** Just outside least .. most, far off, and those that would be inside, were some of their bits dropped. */
    static int[] outside(int least, int most) {
        long[] all = {least - 1L, least - 2L, least - 5L, least - 10L, least - 32L, least - 100L, least - 256L, least - 1000L,
            least - 65536L, Integer.MIN_VALUE, Integer.MIN_VALUE + 1L, Integer.MIN_VALUE + (long) most,
            most + 1L, most + 2L, most + 5L, most + 10L, least + 32L, least + 64L, least + 128L, least + 256L, most + 1000L,
            least + 65536L, least + (1L << 30), Integer.MAX_VALUE - 1L, Integer.MAX_VALUE};
        TreeSet<Integer> set = new TreeSet<>();
        for (long n : all) {
            if ((n < least || n > most) && n >= Integer.MIN_VALUE && n <= Integer.MAX_VALUE) set.add((int) n);
        }
        return set.stream().mapToInt(Integer::intValue).toArray();
    }
}
