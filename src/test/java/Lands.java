/** Lands that several tests tell, and arguments that are mostly wrong. */
final class Lands {
    /**
     * <pre>
     *  ~ 5 5 ~     0  1  2  3
     *  ~ 5 9 ~     4  5  6  7
     *  ~ ~ ~ ~     8  9 10 11
     * </pre>
     */
    static final String CAPE = "size 4 3;row 0 0 5 5 0;row 1 0 5 9 0;row 2 0 0 0 0;level 0;hour 4;afloat 2;"
        + "work 2 0 5;work 1 1 2;man 0 0;child 3 1;sleeper 1 0;";
    /** All soil. */
    static final String DRY = "size 2 2;row 0 1 1;row 1 1 1;hour 1;man 1 1;work 0 0 3;";
    /** All water, six by six. */
    static final String SEA = "";
    /** Eight by eight, water in two corners alone. */
    static final String WIDE = "size 8 8;row 0 0 9 9 9 9 9 9 9;row 1 9 9 9 9 9 9 9 9;row 2 9 9 9 9 9 9 9 9;"
        + "row 3 9 9 9 9 9 9 9 9;row 4 9 9 9 9 9 9 9 9;row 5 9 9 9 9 9 9 9 9;row 6 9 9 9 9 9 9 9 9;"
        + "row 7 9 9 9 9 9 9 9 3;level 3;hour 60;afloat 20;work 7 6 20;work 0 7 20;man 7 7;";

    /** What is on the tape of full(). */
    static final String TAPE = "level 7;hour 9;";

    /** Arguments of which most are wrong wherever they come. */
    static final int[] ODD = {Integer.MIN_VALUE, -1000, -3, -2, -1, 0, 1, 2, 3, 4, 5, 9, 10, 11, 12, 13, 60, 61, 63, 64,
        65, 99, 100, 999, 1000, 1 << 16, Integer.MAX_VALUE};

    private Lands() {
    }

    /** Two of each sort, a FAULT of 2 at place 6, an image 1 of less than that, fifteen bytes on the tape. */
    static FerryLand full() {
        FerryLand x = Due.with(CAPE, "go 0 1;go 0 1;work 0;work 0;work 0;go 0 1;wait 0;wait 0;go 1 3;go 1 3;go 1 3;wait 2;moor 0;level 5;work 2;",
            "from 1 0;leg 1 3;leg 2 1;", "leg 2 2;leg 0 1;");
        Due.due("sight", Due.tell(x, 3, Due.NONE, "from 1 0;not 2 2 0;"), 0);
        Due.due("image", x.image(1), true);
        Due.due("second land", Due.tell(x, 0, Due.NONE, DRY), 1);
        Due.due("second day", Due.tell(x, 1, Due.NONE, "wait 0;level 3;wait 1;"), 1);
        Due.due("second sight", Due.tell(x, 3, Due.NONE, "seen 3 1 1;"), 1);
        Due.due("a fault", Due.tell(x, 0, 1, "level 10;"), Due.NONE);
        Due.type(x, TAPE);
        return x;
    }
}
