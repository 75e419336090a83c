import java.util.stream.IntStream;

/** Numbers that name nothing. */
final class Wrong {
    /** None of these is a side, a cover or a hall. */
    static final int[] SIDES = beside(2);

    private Wrong() {
    }

    /**
     * Numbers that are not in 0 .. end - 1: the nearest, the farthest, and those that would be in it again if bits of
     * theirs were lost (a shift takes 5 or 6, a byte 8, a short 16).
     */
    static int[] beside(int end) {
        int last = end - 1;
        return IntStream.of(-1, -2, -end, end, end + 1, 32 + last, 63, 64, 64 + last, -64, -64 + last, 256, 65536,
                65536 + last, Integer.MAX_VALUE, Integer.MIN_VALUE, Integer.MIN_VALUE + last)
                .filter(number -> number < 0 || number >= end)
                .distinct()
                .toArray();
    }
}
