import java.util.stream.IntStream;

/** Numbers at, inside and beyond the edges of a range least .. most. */
final class Edges {
    static final int LOW = Integer.MIN_VALUE;
    static final int HIGH = Integer.MAX_VALUE;

    private Edges() {
    }

    /** The steps of 256 and 65536 would fall into the range if a number were cut to a byte or a short. */
    static int[] outside(int least, int most) {
        return new int[] {LOW, LOW + 1, least - 65536, least - 256, least - 2, least - 1, most + 1, most + 2, most + 256,
            most + 65536, HIGH - 1, HIGH};
    }

    static int[] inside(int least, int most) {
        return IntStream.rangeClosed(least, most).toArray();
    }

    /** Outside, and inside only at both ends and in the middle. */
    static int[] around(int least, int most) {
        IntStream within = IntStream.of(least, least + 1, (least + most) / 2, most - 1, most);
        return IntStream.concat(IntStream.of(outside(least, most)), within).distinct().toArray();
    }
}
