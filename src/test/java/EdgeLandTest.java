/** Promises 6 and 7 with what Term 1 says of a LAND, sentence by sentence: at each bound, below and above it. */
public final class EdgeLandTest {
    private static final int NONE = Due.NONE;
    private static final int[] FAR = {Integer.MIN_VALUE, -65, -2, 65, 100, Integer.MAX_VALUE};

    public static void main(String[] args) {
        atFirst();
        leastAndGreatest();
        cellsByNumbers();
        cellsAtTheBounds();
        waterOrSoil();
        restOfARow();
        laterSizes();
        laterRows();
        laterNumbers();
        laterWorks();
        furtherPeople();
        fivePeople();
        kinds();
        numbersOfWhat();
        noSuchLand();
        theSecondLand();
        behindRefusedCalls();
        Due.finish("EdgeLandTest");
    }

    private static void head(String name, FerryLand x, int... want) {
        for (int what = 0; what < want.length; what++) {
            Due.due(name + ": land " + what, x.land(0, what), want[what]);
        }
    }

    private static void atFirst() {
        FerryLand x = Due.with("", null);
        head("at first", x, 6, 6, 0, 12, 3, 0);
        for (int cell = 0; cell < 36; cell++) {
            Due.due("height at first " + cell, x.cell(0, cell, false), 0);
            Due.due("work at first " + cell, x.cell(0, cell, true), 0);
        }
    }

    private static void leastAndGreatest() {
        head("least", Due.with("size 2 2;level 0;hour 1;afloat 0;", null), 2, 2, 0, 1, 0, 0);
        head("greatest", Due.with("size 8 8;level 9;hour 60;afloat 20;", null), 8, 8, 9, 60, 20, 0);
        head("wide", Due.with("size 8 2;", null), 8, 2, 0, 12, 3, 0);
        head("high", Due.with("size 2 8;", null), 2, 8, 0, 12, 3, 0);
        FerryLand x = Due.with("row 0 0 9;work 0 0 0;work 1 0 20;work 2 0 1;", null);
        Due.due("least height", x.cell(0, 0, false), 0);
        Due.due("greatest height", x.cell(0, 1, false), 9);
        Due.due("least work", x.cell(0, 0, true), 0);
        Due.due("greatest work", x.cell(0, 1, true), 20);
        Due.due("work 1", x.cell(0, 2, true), 1);
    }

    /** WIDE times row and column, row 0 on top: of each size. */
    private static void cellsByNumbers() {
        for (int wide = 2; wide < 9; wide++) {
            for (int high = 2; high < 9; high++) {
                int column = wide - 1;
                int row = high - 2;
                int last = wide * high - 1;
                FerryLand x = Due.with("size " + wide + " " + high + ";row " + row + " 1 2;work " + column + " " + row + " 7;man " + column + " " + row + ";man "
                    + column + " " + (high - 1) + ";man 0 0;", null);
                Due.due("height at the row's begin", x.cell(0, wide * row, false), 1);
                Due.due("height at the next one", x.cell(0, wide * row + 1, false), 2);
                Due.due("work at the row's end", x.cell(0, wide * row + column, true), 7);
                Due.due("no work there", x.cell(0, wide * row + column + 1, true), 0);
                Due.due("a person's cell", x.land(0, 20), wide * row + column);
                Due.due("the last cell", x.land(0, 21), last);
                Due.due("the first cell", x.land(0, 22), 0);
                Due.due("the last cell", x.cell(0, last, false), 0);
                Due.due("no cell behind it", x.cell(0, last + 1, false), NONE);
                Due.due("no cell behind it", x.cell(0, last + 1, true), NONE);
            }
        }
    }

    private static void cellsAtTheBounds() {
        FerryLand x = Due.with("size 3 2;row 0 4;row 1 0 0 5;work 0 0 6;work 2 1 7;", null);
        Due.due("cell 0", x.cell(0, 0, false), 4);
        Due.due("cell 5", x.cell(0, 5, false), 5);
        Due.due("work of 0", x.cell(0, 0, true), 6);
        Due.due("work of 5", x.cell(0, 5, true), 7);
        for (boolean work : new boolean[] {false, true}) {
            Due.due("cell -1", x.cell(0, -1, work), NONE);
            Due.due("cell 6", x.cell(0, 6, work), NONE);
            Due.due("cell 63", x.cell(0, 63, work), NONE);
            Due.due("cell 64", x.cell(0, 64, work), NONE);
            for (int cell : FAR) {
                Due.due("cell " + cell, x.cell(0, cell, work), NONE);
            }
        }
        FerryLand wide = Due.with("size 8 8;row 7 0 0 0 0 0 0 0 8;work 7 7 9;", null);
        Due.due("cell 63", wide.cell(0, 63, false), 8);
        Due.due("work of 63", wide.cell(0, 63, true), 9);
        Due.due("cell 64", wide.cell(0, 64, false), NONE);
        Due.due("work of 64", wide.cell(0, 64, true), NONE);
    }

    /** WATER, if its HEIGHT is not above LEVEL: at it, one below, one above. */
    private static void waterOrSoil() {
        for (int level = 0; level < 10; level++) {
            for (int height = 0; height < 10; height++) {
                FerryLand x = Due.with("size 2 2;row 0 9 9;row 1 9 " + height + ";level " + level + ";man 1 1;", "");
                String name = "height " + height + ", level " + level;
                Due.due(name, x.state(0, 0, 0, 3), height > level ? 1 : 0);
                Due.due(name, x.inland(0) == NONE, height > level || level == 9);
                Due.due(name, x.moored(0, false), height <= level && level < 9 ? 1 : 0);
            }
        }
    }

    private static void restOfARow() {
        FerryLand x = Due.with("size 4 2;row 1 9 9 9 9;row 1 7;", null);
        int[] want = {7, 0, 0, 0};
        for (int i = 0; i < 4; i++) {
            Due.due("all others of it 0: " + i, x.cell(0, 4 + i, false), want[i]);
        }
        Due.due("no heights", Due.tell(x, 0, 0, "size 4 2;row 1 9 9 9 9;row 1;"), 0);
        for (int i = 0; i < 4; i++) {
            Due.due("all of it 0: " + i, x.cell(0, 4 + i, false), 0);
        }
        Due.due("all eight", Due.tell(x, 0, 0, "size 8 2;row 0 1 2 3 4 5 6 7 8;"), 0);
        for (int i = 0; i < 8; i++) {
            Due.due("column " + i, x.cell(0, i, false), i + 1);
            Due.due("the other row", x.cell(0, 8 + i, false), 0);
        }
    }

    private static void laterSizes() {
        FerryLand x = Due.with("size 8 2;row 1 1 2;work 1 1 3;man 1 1;size 3 4;", null);
        head("a later size", x, 3, 4, 0, 12, 3, 1);
        Due.due("the row stays", x.cell(0, 3, false), 1);
        Due.due("the row stays", x.cell(0, 4, false), 2);
        Due.due("the work stays", x.cell(0, 4, true), 3);
        Due.due("the person stays", x.land(0, 20), 4);
    }

    /** A later row strikes that row alone. */
    private static void laterRows() {
        FerryLand x = Due.with("size 2 3;row 0 1 2;row 1 3 4;row 2 5 6;row 1 7;", null);
        int[] want = {1, 2, 7, 0, 5, 6};
        for (int cell = 0; cell < 6; cell++) {
            Due.due("a later row: " + cell, x.cell(0, cell, false), want[cell]);
        }
    }

    private static void laterNumbers() {
        head("later level", Due.with("level 9;level 0;", null), 6, 6, 0, 12, 3, 0);
        head("later hour", Due.with("hour 60;hour 1;", null), 6, 6, 0, 1, 3, 0);
        head("later afloat", Due.with("afloat 20;afloat 0;", null), 6, 6, 0, 12, 0, 0);
        head("each for itself", Due.with("level 4;hour 5;afloat 6;level 7;", null), 6, 6, 7, 5, 6, 0);
    }

    private static void laterWorks() {
        FerryLand x = Due.with("work 1 2 9;work 2 1 8;work 1 2 3;work 0 0 5;work 0 0 0;", null);
        Due.due("a later work", x.cell(0, 13, true), 3);
        Due.due("another cell's", x.cell(0, 8, true), 8);
        Due.due("a later work of 0", x.cell(0, 0, true), 0);
    }

    private static void furtherPeople() {
        FerryLand x = Due.with("man 1 0;man 1 0;child 2 0;man 1 0;", null);
        Due.due("further ones", x.land(0, 5), 4);
        int[] kinds = {0, 0, 1, 0};
        int[] cells = {1, 1, 2, 1};
        for (int p = 0; p < 4; p++) {
            Due.due("kind of " + p, x.land(0, 10 + p), kinds[p]);
            Due.due("cell of " + p, x.land(0, 20 + p), cells[p]);
        }
    }

    private static void fivePeople() {
        StringBuilder text = new StringBuilder();
        for (int many = 0; many < 6; many++) {
            FerryLand x = Due.with(text.toString(), null);
            Due.due("people", x.land(0, 5), many);
            for (int p = 0; p < 7; p++) {
                Due.due("kind of " + p + " of " + many, x.land(0, 10 + p), p < many ? p % 3 : NONE);
                Due.due("cell of " + p + " of " + many, x.land(0, 20 + p), p < many ? 5 - p : NONE);
            }
            Due.due("what 9", x.land(0, 9), NONE);
            Due.due("what 19", x.land(0, 19), NONE);
            Due.due("what 30", x.land(0, 30), NONE);
            text.append(new String[] {"man ", "child ", "sleeper "}[many % 3]).append(5 - many).append(" 0;");
        }
    }

    private static void kinds() {
        FerryLand x = Due.with("sleeper 0 0;child 0 0;man 0 0;", null);
        Due.due("a sleeper", x.land(0, 10), 2);
        Due.due("a child", x.land(0, 11), 1);
        Due.due("a man", x.land(0, 12), 0);
    }

    private static void numbersOfWhat() {
        FerryLand x = Due.with("size 7 8;level 1;hour 2;afloat 4;man 3 0;man 4 0;man 5 0;man 6 0;child 6 7;", null);
        int[] head = {7, 8, 1, 2, 4, 5};
        int[] cells = {3, 4, 5, 6, 55};
        for (int what = -3; what < 130; what++) {
            int want = NONE;
            if (what >= 0 && what < 6) {
                want = head[what];
            } else if (what >= 10 && what < 15) {
                want = what == 14 ? 1 : 0;
            } else if (what >= 20 && what < 25) {
                want = cells[what - 20];
            }
            Due.due("what " + what, x.land(0, what), want);
        }
        for (int what : FAR) {
            Due.due("what " + what, x.land(0, what), NONE);
        }
    }

    private static void noSuchLand() {
        for (int many = 0; many < 3; many++) {
            FerryLand x = new FerryLand();
            for (int i = 0; i < many; i++) {
                Due.due("land", Due.tell(x, 0, NONE, "man 0 0;"), i);
            }
            for (int land = -2; land < 4; land++) {
                boolean there = land >= 0 && land < many;
                Due.due("land " + land + " of " + many, x.land(land, 0), there ? 6 : NONE);
                Due.due("land " + land + " of " + many, x.land(land, 20), there ? 0 : NONE);
                Due.due("land " + land + " of " + many, x.cell(land, 0, false), there ? 0 : NONE);
                Due.due("land " + land + " of " + many, x.cell(land, 0, true), there ? 0 : NONE);
            }
            for (int land : FAR) {
                Due.due("land " + land, x.land(land, 0), NONE);
                Due.due("land " + land, x.cell(land, 0, false), NONE);
            }
        }
    }

    private static void theSecondLand() {
        FerryLand x = Due.with("size 2 3;row 2 1 2;work 1 2 3;man 1 2;", null);
        Due.due("second", Due.tell(x, 0, NONE, "size 4 2;row 1 5 6;work 1 1 7;child 1 1;child 0 0;"), 1);
        Due.due("the first one's size", x.land(0, 0), 2);
        Due.due("the second one's size", x.land(1, 0), 4);
        Due.due("the first one's heights", x.cell(0, 5, false), 2);
        Due.due("the second one's heights", x.cell(1, 5, false), 6);
        Due.due("the first one's works", x.cell(0, 5, true), 3);
        Due.due("the second one's works", x.cell(1, 5, true), 7);
        Due.due("the first one's people", x.land(0, 5), 1);
        Due.due("the second one's people", x.land(1, 5), 2);
        Due.due("the first one's cells", x.cell(0, 6, false), NONE);
        Due.due("the second one's cells", x.cell(1, 7, false), 0);
    }

    private static void behindRefusedCalls() {
        FerryLand x = Due.with("size 3 2;row 0 1 2 3;work 1 1 5;man 2 1;", null);
        for (int wrong : FAR) {
            Due.due("refused", x.land(0, wrong), NONE);
            Due.due("refused", x.land(wrong, 0), NONE);
            Due.due("refused", x.cell(0, wrong, false), NONE);
            Due.due("refused", x.cell(wrong, 0, true), NONE);
            head("behind it", x, 3, 2, 0, 12, 3, 1);
            Due.due("behind it", x.cell(0, 2, false), 3);
            Due.due("behind it", x.cell(0, 4, true), 5);
            Due.due("behind it", x.land(0, 20), 5);
        }
    }
}
