/** Promises 22 to 24: sights, the walks they leave, where one was for sure, whom to ask. */
public final class SightTest {
    private static final int NONE = Due.NONE;

    public static void main(String[] args) {
        told();
        walks();
        hours();
        facts();
        sure();
        ask();
        wrong();
        Due.finish("SightTest");
    }

    private static void told() {
        FerryLand x = Due.withSights(Lands.SEA, "from 7 7;seen 12 7 6;not 0 1 2;from 4 5;", "not 3 0 0;");
        int[] head = {4, 5, 2};
        int[][] want = {{1, 12, 7, 6}, {0, 0, 1, 2}};
        for (int what = 0; what < 4; what++) {
            Due.due("head " + what, x.sight(0, NONE, what), what < 3 ? head[what] : -2);
            Due.due("fact 0 " + what, x.sight(0, 0, what), want[0][what]);
            Due.due("fact 1 " + what, x.sight(0, 1, what), want[1][what]);
        }
        Due.due("from at first", x.sight(1, NONE, 0), 0);
        Due.due("from at first", x.sight(1, NONE, 1), 0);
        Due.due("no fact 2", x.sight(0, 2, 0), -2);
        Due.due("no fact -2", x.sight(0, -2, 0), -2);
        Due.due("what 4", x.sight(0, 0, 4), -2);
        Due.due("what -1", x.sight(0, 0, -1), -2);
        Due.due("no sight 2", x.sight(2, NONE, 0), -2);
        Due.due("ten facts", Due.tell(x, 3, 1, "seen 0 1 2;not 1 2 3;".repeat(5)), 1);
        Due.due("ten facts", x.sight(1, NONE, 2), 10);
        Due.due("fact 9", x.sight(1, 9, 3), 3);
        Due.due("no fact 10", x.sight(1, 10, 0), -2);
        for (int a : Lands.ODD) {
            Due.due("no sight " + a, x.sight(a, NONE, 2), a == 0 ? 2 : a == 1 ? 10 : -2);
            Due.due("no fact " + a, x.sight(0, a, 1), a == 0 ? 12 : a == 1 ? 0 : a == NONE ? 5 : -2);
            Due.due("no what " + a, x.sight(0, 0, a), a >= 0 && a < 4 ? want[0][a] : -2);
        }
    }

    private static void walks() {
        FerryLand x = Due.withSights("size 2 2;", "");
        long all = 1;
        for (int n = 0; n <= 12; n++) {
            Due.due("walks of " + n, x.walks(0, 0, n, NONE), all);
            all *= 3;
        }
        Due.due("walks of 13", x.walks(0, 0, 13, NONE), NONE);
        Due.due("walks of -1", x.walks(0, 0, -1, NONE), NONE);
        long[][] ends = {{1, 0, 0, 0}, {1, 1, 1, 0}, {3, 2, 2, 2}, {7, 7, 7, 6}};
        for (int n = 0; n < ends.length; n++) {
            for (int c = 0; c < 4; c++) {
                Due.due("ends of " + n + " at " + c, x.walks(0, 0, n, c), ends[n][c]);
            }
        }
        Due.due("no cell 4", x.walks(0, 0, 2, 4), NONE);
        Due.due("no cell -2", x.walks(0, 0, 2, -2), NONE);
        // In the midst of eight by eight: the first steps are all five.
        Due.due("wide sea", Due.tell(x, 0, 0, "size 8 8;"), 0);
        Due.due("from the midst", Due.tell(x, 3, 0, "from 4 4;"), 0);
        Due.due("walks of 3", x.walks(0, 0, 3, NONE), 125);
        Due.due("walks of 12", x.walks(0, 0, 12, NONE), 198233559L);
        Due.due("back there in 2", x.walks(0, 0, 2, 36), 5);
    }

    private static void hours() {
        // All soil, an hour of 1: at minute 0 it is 1 already.
        FerryLand x = Due.withSights(Lands.DRY, "");
        Due.due("minute 0", x.walks(0, 0, 0, NONE), 1);
        Due.due("no more", x.walks(0, 0, 1, NONE), 0);
        Due.due("no more", x.walks(0, 0, 1, 0), 0);
        Due.due("hour 3", Due.tell(x, 0, 0, Lands.DRY + "hour 3;"), 0);
        long[] want = {1, 3, 9, 0, 0};
        for (int n = 0; n < want.length; n++) {
            Due.due("hour 3, walks of " + n, x.walks(0, 0, n, NONE), want[n]);
        }
        Due.due("hour 12", Due.tell(x, 0, 0, Lands.DRY + "hour 12;"), 0);
        Due.due("hour 12", x.walks(0, 0, 11, NONE), 177147);
        Due.due("hour 12", x.walks(0, 0, 12, NONE), 0);
        Due.due("hour 13", Due.tell(x, 0, 0, Lands.DRY + "hour 13;"), 0);
        Due.due("hour 13", x.walks(0, 0, 12, NONE), 531441);
        // Water at 0 and soil at 1, 2, 3; one minute ashore at most, whatever the rest must be.
        Due.due("shore", Due.tell(x, 0, 0, "size 2 2;row 0 0 1;row 1 1 1;hour 1;afloat 20;"), 0);
        // At 0: from 0 and from 1, 2; at 1, 2: from 0 alone.
        long there = 1;
        long beside = 0;
        for (int n = 0; n <= 12; n++) {
            Due.due("shore, at 0 in " + n, x.walks(0, 0, n, 0), there);
            Due.due("shore, at 1 in " + n, x.walks(0, 0, n, 1), beside);
            Due.due("shore, at 3 in " + n, x.walks(0, 0, n, 3), 0);
            long next = there + 2 * beside;
            beside = there;
            there = next;
        }
    }

    private static void facts() {
        FerryLand x = Due.withSights("size 2 2;", "seen 1 1 0;");
        Due.due("seen at 1", x.walks(0, 0, 0, NONE), 1);
        Due.due("seen at 1", x.walks(0, 0, 1, NONE), 1);
        Due.due("seen at 1", x.walks(0, 0, 2, NONE), 3);
        Due.due("not at 1", Due.tell(x, 3, 0, "not 1 1 0;"), 0);
        Due.due("not at 1", x.walks(0, 0, 1, NONE), 2);
        Due.due("not at 1", x.walks(0, 0, 1, 1), 0);
        Due.due("not at 1", x.walks(0, 0, 2, NONE), 6);
        Due.due("seen there at 0", Due.tell(x, 3, 0, "from 1 1;seen 0 1 1;not 0 0 0;"), 0);
        Due.due("seen there at 0", x.walks(0, 0, 1, NONE), 3);
        Due.due("not there at 0", Due.tell(x, 3, 0, "from 1 1;not 0 1 1;"), 0);
        Due.due("not there at 0", x.walks(0, 0, 0, NONE), 0);
        Due.due("not there at 0", x.walks(0, 0, 5, 3), 0);
        Due.due("seen elsewhere at 0", Due.tell(x, 3, 0, "from 1 1;seen 0 0 1;"), 0);
        Due.due("seen elsewhere at 0", x.walks(0, 0, 0, NONE), 0);
        Due.due("seen at two", Due.tell(x, 3, 0, "seen 2 0 1;seen 2 1 0;"), 0);
        Due.due("before", x.walks(0, 0, 1, NONE), 3);
        Due.due("seen at two", x.walks(0, 0, 2, NONE), 0);
        Due.due("seen and not", Due.tell(x, 3, 0, "seen 12 1 1;not 12 1 1;"), 0);
        Due.due("seen and not", x.walks(0, 0, 12, NONE), 0);
        Due.due("seen and not, before", x.walks(0, 0, 11, NONE), 177147);
        // What is not there of any fact, also of a later minute.
        String[] gone = {"from 2 0;", "from 0 2;", "seen 12 2 0;", "not 12 0 2;", "from 7 7;not 0 0 0;"};
        for (String sight : gone) {
            Due.due(sight, Due.tell(x, 3, 0, sight), 0);
            Due.due(sight + " walks", x.walks(0, 0, 0, NONE), NONE);
            Due.due(sight + " ends", x.walks(0, 0, 0, 0), NONE);
            Due.due(sight + " sure", x.sure(0, 0, 0, 0), NONE);
            Due.due(sight + " ask", x.sure(0, 0, 0, NONE), NONE);
        }
        Due.due("a larger land", Due.tell(x, 0, NONE, ""), 1);
        Due.due("seen 12", Due.tell(x, 3, 0, "seen 12 2 0;"), 0);
        Due.due("there", x.walks(1, 0, 0, NONE), 1);
        Due.due("not there", x.walks(0, 0, 0, NONE), NONE);
    }

    private static void sure() {
        FerryLand x = Due.withSights("size 5 2;row 1 9 9 9 9 9;hour 1;", "seen 4 4 0;");
        for (int t = 0; t <= 4; t++) {
            Due.due("straight on, at " + t, x.sure(0, 0, 4, t), t);
        }
        Due.due("behind it not", x.sure(0, 0, 5, 5), NONE);
        Due.due("still", x.sure(0, 0, 5, 2), 2);
        Due.due("before it not", x.sure(0, 0, 3, 2), NONE);
        Due.due("at first always", x.sure(0, 0, 3, 0), 0);
        Due.due("minute 5 of 4", x.sure(0, 0, 4, 5), NONE);
        Due.due("minute -2", x.sure(0, 0, 4, -2), NONE);
        Due.due("n 13", x.sure(0, 0, 13, 0), NONE);
        Due.due("n -1", x.sure(0, 0, -1, 0), NONE);
        Due.due("seen too far", Due.tell(x, 3, 0, "seen 3 4 0;"), 0);
        for (int t = 0; t <= 3; t++) {
            Due.due("no walks", x.sure(0, 0, 3, t), NONE);
        }
        Due.due("no walks to ask of", x.sure(0, 0, 3, NONE), NONE);
        Due.due("before", x.sure(0, 0, 2, 0), 0);
        // A minute in the midst that two ways share, of which one is ashore for a minute.
        Due.due("ways", Due.tell(x, 0, 0, "size 3 3;row 1 9 0 9;row 2 9 0 9;hour 1;afloat 0;"), 0);
        Due.due("seen below", Due.tell(x, 3, 0, "seen 3 1 2;"), 0);
        int[] want = {0, NONE, 4, 7};
        for (int t = 0; t < 4; t++) {
            Due.due("down, at " + t, x.sure(0, 0, 3, t), want[t]);
        }
    }

    private static void ask() {
        // Ends of 1: 0, 1, 2 once each of three; 3 never: 2 is the least greater one.
        FerryLand x = Due.withSights("size 2 2;", "");
        Due.due("of one walk", x.sure(0, 0, 0, NONE), 0);
        Due.due("of three", x.sure(0, 0, 1, NONE), 0);
        Due.due("of nine", x.sure(0, 0, 2, NONE), 0);
        Due.due("not at 0", Due.tell(x, 3, 0, "not 1 0 0;"), 0);
        Due.due("halves: at 1 or 2", x.sure(0, 0, 1, NONE), 1);
        Due.due("not at 0, 1", Due.tell(x, 3, 0, "not 1 0 0;not 1 1 0;"), 0);
        // At 2 alone: there or not, the greater is one whatever is asked.
        Due.due("of several the least", x.sure(0, 0, 1, NONE), 0);
        Due.due("from the other corner", Due.tell(x, 3, 0, "from 1 1;"), 0);
        Due.due("three of nine at 3", x.sure(0, 0, 2, NONE), 3);
        Due.due("three of 27, the largest is 7", x.sure(0, 0, 3, NONE), 1);
    }

    private static void wrong() {
        FerryLand x = Due.withSights(Lands.CAPE, "not 0 1 1;");
        for (int a : Lands.ODD) {
            Due.due("walks land " + a, x.walks(a, 0, 0, NONE), a == 0 ? 1 : NONE);
            Due.due("walks sight " + a, x.walks(0, a, 0, NONE), a == 0 ? 1 : NONE);
            Due.due("walks n " + a, x.walks(0, 0, a, NONE) == NONE, a < 0 || a > 12);
            Due.due("walks cell " + a, x.walks(0, 0, 0, a), a == NONE || a == 0 ? 1 : a > 0 && a < 12 ? 0 : NONE);
            Due.due("sure land " + a, x.sure(a, 0, 1, 0), a == 0 ? 0 : NONE);
            Due.due("sure sight " + a, x.sure(0, a, 1, 0), a == 0 ? 0 : NONE);
            Due.due("sure n " + a, x.sure(0, 0, a, 0), a >= 0 && a <= 12 ? 0 : NONE);
            Due.due("ask n " + a, x.sure(0, 0, a, NONE) == NONE, a < 0 || a > 12);
            Due.due("sure minute " + a, x.sure(0, 0, 0, a), a == NONE || a == 0 ? 0 : NONE);
        }
    }
}
