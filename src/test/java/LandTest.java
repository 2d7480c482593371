/** Promises 6 and 7: what a land is told to be. */
public final class LandTest {
    private static final int NONE = Due.NONE;

    public static void main(String[] args) {
        plain();
        told();
        laterOnes();
        greatest();
        wrong();
        Due.finish("LandTest");
    }

    private static void plain() {
        FerryLand x = Due.with("", null);
        int[] want = {6, 6, 0, 12, 3, 0};
        for (int what = 0; what < want.length; what++) {
            Due.due("plain land " + what, x.land(0, what), want[what]);
        }
        Due.due("height", x.cell(0, 35, false), 0);
        Due.due("work", x.cell(0, 35, true), 0);
        Due.due("no cell", x.cell(0, 36, false), NONE);
        Due.due("no cell", x.cell(0, -1, true), NONE);
        Due.due("no person", x.land(0, 10), NONE);
        Due.due("no person", x.land(0, 20), NONE);
    }

    private static void told() {
        FerryLand x = Due.with(Lands.CAPE, null);
        int[] want = {4, 3, 0, 4, 2, 3};
        for (int what = 0; what < want.length; what++) {
            Due.due("cape " + what, x.land(0, what), want[what]);
        }
        int[] heights = {0, 5, 5, 0, 0, 5, 9, 0, 0, 0, 0, 0};
        for (int c = 0; c < heights.length; c++) {
            Due.due("height " + c, x.cell(0, c, false), heights[c]);
            Due.due("work " + c, x.cell(0, c, true), c == 2 ? 5 : c == 5 ? 2 : 0);
        }
        for (int p = 0; p < 3; p++) {
            Due.due("kind", x.land(0, 10 + p), p);
            Due.due("cell", x.land(0, 20 + p), new int[] {0, 7, 1}[p]);
        }
        Due.due("no person", x.land(0, 13), NONE);
        Due.due("no person", x.land(0, 23), NONE);
        Due.due("what 6", x.land(0, 6), NONE);
        Due.due("what 9", x.land(0, 9), NONE);
        Due.due("what 19", x.land(0, 19), NONE);
        Due.due("what 30", x.land(0, 30), NONE);
    }

    /** Later ones strike, but people are further ones; the size may come last. */
    private static void laterOnes() {
        FerryLand x = Due.with("man 2 1;row 1 1 2 3;row 0 4 5;row 1 7;level 3;hour 7;afloat 1;work 2 1 9;work 1 0 4;work 2 1 0;"
            + "level 9;hour 60;afloat 20;man 2 1;child 0 0;size 8 8;size 3 2;", null);
        int[] want = {3, 2, 9, 60, 20, 3};
        for (int what = 0; what < want.length; what++) {
            Due.due("later " + what, x.land(0, what), want[what]);
        }
        int[] heights = {4, 5, 0, 7, 0, 0};
        for (int c = 0; c < heights.length; c++) {
            Due.due("later height " + c, x.cell(0, c, false), heights[c]);
            Due.due("later work " + c, x.cell(0, c, true), c == 1 ? 4 : 0);
        }
        Due.due("person 0", x.land(0, 20), 5);
        Due.due("person 1", x.land(0, 21), 5);
        Due.due("person 2", x.land(0, 22), 0);
        Due.due("rows from below", Due.tell(x, 0, 0, "size 3 3;row 2 7 8 9;row 1 4 5 6;row 0 1 2 3;work 2 2 9;work 0 1 4;"), 0);
        for (int c = 0; c < 9; c++) {
            Due.due("rows from below " + c, x.cell(0, c, false), c + 1);
            Due.due("works from below " + c, x.cell(0, c, true), c == 8 ? 9 : c == 3 ? 4 : 0);
        }
        Due.due("a row without heights", Due.tell(x, 0, 0, "row 0 1 2 3;row 0;"), 0);
        for (int c = 0; c < 6; c++) {
            Due.due("a row without heights, " + c, x.cell(0, c, false), 0);
        }
        Due.due("all of it", Due.tell(x, 0, 0, "size 2 8;level 7;hour 33;afloat 19;man 1 7;row 0 5 6;work 1 1 8;"), 0);
        Due.due("nothing of what was before", Due.tell(x, 0, 0, ""), 0);
        int[] plain = {6, 6, 0, 12, 3, 0};
        for (int what = 0; what < plain.length; what++) {
            Due.due("plain again " + what, x.land(0, what), plain[what]);
        }
        for (int c = 0; c < 36; c++) {
            Due.due("plain height " + c, x.cell(0, c, false), 0);
            Due.due("plain work " + c, x.cell(0, c, true), 0);
        }
    }

    private static void greatest() {
        FerryLand x = Due.with("size 8 8;row 7 1 2 3 4 5 6 7 8;work 7 7 20;work 0 0 1;man 7 7;child 0 7;sleeper 7 0;man 0 0;child 3 4;level 9;", null);
        for (int c = 56; c < 64; c++) {
            Due.due("height " + c, x.cell(0, c, false), c - 55);
        }
        Due.due("work", x.cell(0, 63, true), 20);
        Due.due("work", x.cell(0, 0, true), 1);
        Due.due("no cell", x.cell(0, 64, false), NONE);
        Due.due("no cell", x.cell(0, 64, true), NONE);
        int[] kinds = {0, 1, 2, 0, 1};
        int[] cells = {63, 56, 7, 0, 35};
        Due.due("people", x.land(0, 5), 5);
        for (int p = 0; p < 5; p++) {
            Due.due("kind " + p, x.land(0, 10 + p), kinds[p]);
            Due.due("cell " + p, x.land(0, 20 + p), cells[p]);
        }
        Due.due("no sixth", x.land(0, 15), NONE);
        Due.due("no sixth", x.land(0, 25), NONE);
        Due.due("the second land", Due.tell(x, 0, NONE, Lands.DRY), 1);
        Due.due("its width", x.land(1, 0), 2);
        Due.due("its cell", x.cell(1, 3, false), 1);
        Due.due("no cell there", x.cell(1, 4, false), NONE);
        Due.due("the first one's", x.cell(0, 4, false), 0);
    }

    private static void wrong() {
        FerryLand none = new FerryLand();
        FerryLand x = Due.with(Lands.CAPE, null);
        for (int a : Lands.ODD) {
            Due.due("no land", none.land(a, 0), NONE);
            Due.due("no land", none.cell(a, 0, false), NONE);
            if (a != 0) {
                Due.due("no land " + a, x.land(a, 0), NONE);
                Due.due("no land " + a, x.cell(a, 0, false), NONE);
                Due.due("no land " + a, x.cell(a, 2, true), NONE);
            }
            if (a < 0 || a > 11) {
                Due.due("no cell " + a, x.cell(0, a, false), NONE);
                Due.due("no cell " + a, x.cell(0, a, true), NONE);
            }
            if (a < 0 || a > 12) {
                Due.due("what " + a, x.land(0, a), NONE);
            }
        }
    }
}
