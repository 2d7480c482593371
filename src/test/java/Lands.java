/** Lands that several tests tell, and arguments that are mostly wrong. */
final class Lands {
    /**
     * <pre>
     *  ~ 5 5 ~     0  1  2  3
     *  ~ 5 9 ~     4  5  6  7
     *  ~ ~ ~ ~     8  9 10 11
     * </pre>
     */
    static final String CAPE = "size 4 3;row 0 0 5 5 0;row 1 0 5 9 0;row 2 0 0 0 0;level 0;hour 4;afloat 2;"
        + "work 2 0 5;work 1 1 2;man 0 0;child 3 1;sleeper 1 0;";
    /** All soil. */
    static final String DRY = "size 2 2;row 0 1 1;row 1 1 1;hour 1;man 1 1;work 0 0 3;";
    /** All water, six by six. */
    static final String SEA = "";
    /** Eight by eight, water in two corners alone. */
    static final String WIDE = "size 8 8;row 0 0 9 9 9 9 9 9 9;row 1 9 9 9 9 9 9 9 9;row 2 9 9 9 9 9 9 9 9;"
        + "row 3 9 9 9 9 9 9 9 9;row 4 9 9 9 9 9 9 9 9;row 5 9 9 9 9 9 9 9 9;row 6 9 9 9 9 9 9 9 9;"
        + "row 7 9 9 9 9 9 9 9 3;level 3;hour 60;afloat 20;work 7 6 20;work 0 7 20;man 7 7;";

    /** Arguments of which most are wrong wherever they come. */
    static final int[] ODD = {Integer.MIN_VALUE, -1000, -3, -2, -1, 0, 1, 2, 3, 4, 5, 9, 10, 11, 12, 13, 60, 61, 63, 64,
        65, 99, 100, 999, 1000, 1 << 16, Integer.MAX_VALUE};

    private Lands() {
    }
}
