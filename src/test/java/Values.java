/** Arguments that are worth a try anywhere. */
final class Values {
    static final int MIN = Integer.MIN_VALUE;
    static final int MAX = Integer.MAX_VALUE;
    /** The ends of every range, what lies just beyond, and what looks good if only its last bits are kept. */
    static final int[] ALL = {
        MIN, MIN + 1, MIN + 8, -65536, -65528, -1001, -256, -255, -8, -2, -1, 0, 1, 2, 3, 4, 5, 7, 8, 9, 15, 16, 17, 19,
        20, 21, 99, 100, 101, 199, 200, 201, 255, 256, 257, 264, 999, 1000, 1001, 65536, 65537, 65544, 99999, 100000,
        100001, MAX - 7, MAX - 1, MAX,
    };
    /** Few enough for every choice of four of them. */
    static final int[] FEW = {MIN, -256, -1, 0, 1, 2, 8, 20, 21, 100, 101, 264, 65537, MAX};

    private Values() {
    }
}
