/** Promises 8, 9, 10 and 25: days deed by deed, and days by a seed. */
public final class DayTest {
    private static final int NONE = Due.NONE;
    private static final String DAY = "go 0 1;go 0 1;work 0;work 0;work 0;go 0 1;wait 0;wait 0;go 1 3;go 1 3;go 1 3;wait 2;moor 0;level 5;work 2;";

    public static void main(String[] args) {
        deeds();
        capeDay();
        stops();
        fines();
        clocks();
        rests();
        levels();
        wrong();
        drawn();
        Due.finish("DayTest");
    }

    private static void deeds() {
        FerryLand x = Due.with(Lands.SEA, "go 4 3;work 1;wait 2;moor 3;level 9;");
        int[][] want = {{0, 4, 3}, {1, 1, NONE}, {2, 2, NONE}, {3, 3, NONE}, {4, 9, NONE}};
        Due.due("how many", x.deed(0, NONE, 0), 5);
        Due.due("how many, what 1", x.deed(0, NONE, 1), -2);
        for (int k = 0; k < 5; k++) {
            for (int what = 0; what < 3; what++) {
                Due.due("deed " + k + " " + what, x.deed(0, k, what), want[k][what]);
            }
            Due.due("what 3", x.deed(0, k, 3), -2);
            Due.due("what -1", x.deed(0, k, -1), -2);
        }
        Due.due("no deed 5", x.deed(0, 5, 0), -2);
        Due.due("no deed -2", x.deed(0, -2, 0), -2);
        Due.due("no day 1", x.deed(1, 0, 0), -2);
        Due.due("no day -1", x.deed(-1, NONE, 0), -2);
        Due.due("an empty day", Due.tell(x, 1, NONE, ""), 1);
        Due.due("an empty day", x.deed(1, NONE, 0), 0);
        Due.due("an empty day", x.deed(1, 0, 0), -2);
        Due.due("40 deeds", Due.tell(x, 1, 1, "level 7;".repeat(39) + "go 3 2;"), 1);
        Due.due("40 deeds", x.deed(1, NONE, 0), 40);
        Due.due("deed 39", x.deed(1, 39, 1), 3);
        Due.due("deed 39", x.deed(1, 39, 2), 2);
        Due.due("deed 38", x.deed(1, 38, 1), 7);
        Due.due("no deed 40", x.deed(1, 40, 0), -2);
        for (int a : Lands.ODD) {
            Due.due("no day", x.deed(a, 9, 0), a == 1 ? 4 : -2);
            Due.due("no deed", x.deed(0, a, 1), a >= 0 && a < 5 ? want[a][1] : -2);
            Due.due("no what", x.deed(0, 0, a), a >= 0 && a < 3 ? want[0][a] : -2);
        }
    }

    private static void capeDay() {
        FerryLand x = Due.with(Lands.CAPE, DAY);
        Due.due("stop", x.stop(0, 0), 14);
        Due.due("no state 15", x.state(0, 0, 15, 0), -2);
        // n, what, want
        int[][] rows = {
            {0, 0, 0}, {0, 1, 0}, {0, 2, 7}, {0, 3, 4}, {0, 10, 0}, {0, 11, 7}, {0, 12, 1}, {0, 20, 0}, {0, 32, 0}, {0, 42, 0},
            {1, 10, 1}, {1, 20, 1}, {1, 30, 1}, {1, 3, 5}, {2, 10, 2}, {2, 30, 2}, {3, 2, 6}, {4, 30, 4}, {4, 50, 0},
            {5, 2, 4}, {5, 30, 5}, {5, 50, 1}, {5, 1, 1}, {6, 10, 3}, {6, 30, 5}, {6, 40, 1}, {6, 50, 1}, {6, 3, 4},
            {7, 30, 0}, {7, 40, 2}, {8, 40, 3}, {9, 11, 6}, {9, 31, 1}, {10, 31, 2}, {10, 51, 0}, {11, 11, 4}, {11, 31, 2}, {11, 41, 1},
            {12, 32, 1}, {12, 22, 1}, {13, 40, 5}, {13, 20, 10}, {13, 0, 0}, {13, 3, 4},
            {14, 0, 5}, {14, 3, 0}, {14, 1, 1}, {14, 2, 4}, {14, 12, 1}, {14, 42, 0}, {14, 32, 1}, {14, 21, 3}, {14, 53, -2}, {14, 13, -2},
        };
        for (int[] row : rows) {
            Due.due("cape's day, state " + row[0] + " " + row[1], x.state(0, 0, row[0], row[1]), row[2]);
        }
    }

    private static int stop(FerryLand x, String day) {
        Due.due(day, Due.tell(x, 1, 0, day), 0);
        return x.stop(0, 0);
    }

    private static void stops() {
        FerryLand x = Due.with(Lands.CAPE, "");
        Due.due("none", x.stop(0, 0), 0);
        // deeds that can't be
        String[] never = {"go 0 0;", "go 0 3;", "go 1 1;", "go 2 0;", "go 3 1;", "work 0;", "work 2;", "work 3;", "wait 3;", "wait 4;", "moor 2;", "moor 4;",
            "go 4 1;", "work 1;"};
        for (String day : never) {
            Due.due(day, stop(x, day), 0);
            Due.due(day, stop(x, "wait 0;" + day + "wait 0;"), 1);
        }
        String[] well = {"go 0 1;", "go 0 2;", "go 1 0;", "go 1 3;", "wait 2;", "moor 0;", "moor 1;", "level 0;", "level 9;", "go 0 1;go 0 1;work 0;",
            "go 2 2;work 2;work 2;", "level 4;wait 0;", "level 9;moor 2;"};
        for (String day : well) {
            Due.due(day, stop(x, day), day.split(";").length);
        }
        Due.due("no work left", stop(x, "go 2 2;work 2;work 2;work 2;"), 3);
        Due.due("work under water", stop(x, "go 2 2;level 5;work 2;"), 2);
        Due.due("moor on soil", stop(x, "go 0 1;moor 0;"), 1);
        Due.due("others there", stop(x, "go 0 1;go 2 3;go 2 1;"), 3);
        Due.due("edges", stop(x, "go 0 2;go 0 2;go 0 2;"), 2);
        Due.due("forty", stop(x, "wait 0;".repeat(40)), 40);
        Due.due("no land", x.stop(1, 0), NONE);
        Due.due("no day", x.stop(0, 1), NONE);
        Due.due("no people", Due.tell(x, 0, NONE, ""), 1);
        Due.due("no people", x.stop(1, 0), 0);
        Due.due("no people", Due.tell(x, 1, 0, "level 3;level 4;wait 0;"), 0);
        Due.due("no people", x.stop(1, 0), 2);
        Due.due("no people", x.state(1, 0, 2, 0), 4);
        Due.due("no people", x.state(1, 0, 2, 1), 0);
        Due.due("no people", x.state(1, 0, 2, 3), 0);
        Due.due("no people", x.state(1, 0, 2, 10), -2);
    }

    private static void fines() {
        // Five on soil: limits 4, 2, 4; then an hour of 1: limits 1, 1, 1.
        FerryLand x = Due.with("size 2 2;row 0 1 1;row 1 1 1;hour 4;man 0 0;child 0 0;sleeper 0 0;", "wait 0;wait 1;wait 2;".repeat(6));
        int[][] want = {{0, 0, 0}, {0, 0, 0}, {0, 0, 0}, {0, 1, 0}, {0, 2, 0}, {1, 3, 2}, {2, 4, 4}};
        for (int n = 0; n <= 6; n++) {
            int all = 0;
            for (int p = 0; p < 3; p++) {
                Due.due("fines behind " + n, x.state(0, 0, 3 * n, 50 + p), want[n][p]);
                Due.due("ashore behind " + n, x.state(0, 0, 3 * n, 30 + p), n);
                all += want[n][p];
            }
            Due.due("all fines behind " + n, x.state(0, 0, 3 * n, 1), all);
        }
        for (int hour : new int[] {1, 2, 3, 5}) {
            int limit = hour < 4 ? 1 : 2;
            Due.due("land", Due.tell(x, 0, 0, "size 2 2;row 0 1 1;row 1 1 1;hour " + hour + ";man 0 0;child 0 0;sleeper 0 0;"), 0);
            for (int n = 0; n <= 6; n++) {
                Due.due("man, hour " + hour, x.state(0, 0, 3 * n, 50), Math.max(0, n - hour));
                Due.due("child, hour " + hour, x.state(0, 0, 3 * n, 51), Math.max(0, n - limit));
                Due.due("sleeper, hour " + hour, x.state(0, 0, 3 * n, 52), 2 * Math.max(0, n - hour));
            }
        }
    }

    private static void clocks() {
        // Moorings of 20 minutes: 99 at most.
        FerryLand x = Due.with("afloat 20;man 0 0;man 0 0;", "moor 0;moor 0;moor 0;moor 0;moor 0;");
        Due.due("the fifth can't be", x.stop(0, 0), 4);
        Due.due("clock", x.state(0, 0, 4, 20), 80);
        Due.due("rest", x.state(0, 0, 4, 40), 80);
        Due.due("up to 99", stop(x, "moor 0;moor 0;moor 0;moor 0;" + "wait 0;".repeat(20)), 23);
        Due.due("clock 99", x.state(0, 0, 23, 20), 99);
        Due.due("the other's clock", stop(x, "moor 0;moor 0;moor 0;moor 0;" + "wait 0;".repeat(19) + "wait 1;go 1 1;go 0 1;"), 25);
        Due.due("afloat 11", Due.tell(x, 0, 0, "afloat 11;man 0 0;"), 0);
        Due.due("99 by moorings", stop(x, "moor 0;".repeat(10)), 9);
        Due.due("clock 99", x.state(0, 0, 9, 20), 99);
        Due.due("no state", x.state(0, 0, 10, 20), -2);
        Due.due("afloat 0", Due.tell(x, 0, 0, "afloat 0;man 0 0;"), 0);
        Due.due("no minutes", stop(x, "moor 0;wait 0;moor 0;"), 3);
        Due.due("no minutes", x.state(0, 0, 1, 20), 0);
        Due.due("no rest by it", x.state(0, 0, 1, 40), 0);
        Due.due("no minutes", x.state(0, 0, 3, 20), 1);
    }

    private static void rests() {
        String shore = "size 2 2;row 0 0 1;row 1 0 1;hour 9;man 0 0;";
        String day = "go 0 1;wait 0;go 0 3;wait 0;go 0 1;go 0 3;wait 0;wait 0;wait 0;";
        // afloat, then ashore behind each deed
        int[][] rows = {
            {0, 1, 2, 0, 0, 1, 0, 0, 0, 0}, {1, 1, 2, 0, 0, 1, 0, 0, 0, 0}, {2, 1, 2, 2, 0, 1, 1, 0, 0, 0},
            {3, 1, 2, 2, 2, 3, 3, 3, 0, 0}, {4, 1, 2, 2, 2, 3, 3, 3, 3, 0}, {5, 1, 2, 2, 2, 3, 3, 3, 3, 3},
        };
        int[] rests = {0, 0, 0, 1, 2, 0, 1, 2, 3, 4};
        for (int[] row : rows) {
            FerryLand x = Due.with(shore + "afloat " + row[0] + ";", day);
            for (int n = 1; n <= 9; n++) {
                Due.due("ashore, afloat " + row[0] + ", behind " + n, x.state(0, 0, n, 30), row[n]);
                Due.due("rest, afloat " + row[0] + ", behind " + n, x.state(0, 0, n, 40), rests[n]);
            }
        }
        FerryLand x = Due.with(shore + "afloat 0;", "go 0 1;level 1;moor 0;wait 0;");
        Due.due("a moor of no minutes", x.state(0, 0, 3, 30), 1);
        Due.due("a minute then", x.state(0, 0, 4, 30), 0);
        Due.due("afloat 2", Due.tell(x, 0, 0, shore + "afloat 2;"), 0);
        Due.due("a moor", x.state(0, 0, 2, 40), 0);
        Due.due("a moor of two", x.state(0, 0, 3, 40), 2);
        Due.due("a moor of two", x.state(0, 0, 3, 30), 0);
        Due.due("a moor of two", x.state(0, 0, 3, 20), 3);
    }

    private static void levels() {
        FerryLand x = Due.with("size 2 2;row 0 3 5;row 1 7 9;level 4;hour 20;work 0 0 1;man 0 0;man 1 0;man 0 1;man 1 1;", "level 2;work 0;level 5;wait 1;level 9;level 0;");
        int[][] want = {{4, 14}, {2, 15}, {2, 15}, {5, 12}, {5, 12}, {9, 0}, {0, 15}};
        Due.due("stop", x.stop(0, 0), 6);
        for (int n = 0; n < want.length; n++) {
            Due.due("level behind " + n, x.state(0, 0, n, 0), want[n][0]);
            Due.due("on soil behind " + n, x.state(0, 0, n, 3), want[n][1]);
        }
        Due.due("no minutes by a level", x.state(0, 0, 6, 22), 0);
        Due.due("work left", x.state(0, 0, 1, 2), 1);
        Due.due("work done", x.state(0, 0, 2, 2), 0);
        Due.due("a rest", x.state(0, 0, 4, 41), 1);
        // The land as told stays.
        Due.due("work as told", x.cell(0, 0, true), 1);
        Due.due("level as told", x.land(0, 2), 4);
    }

    private static void wrong() {
        FerryLand x = Due.with(Lands.CAPE, DAY);
        for (int a : Lands.ODD) {
            Due.due("no land " + a, x.stop(a, 0), a == 0 ? 14 : NONE);
            Due.due("no day " + a, x.stop(0, a), a == 0 ? 14 : NONE);
            Due.due("no land " + a, x.state(a, 0, 0, 2), a == 0 ? 7 : -2);
            Due.due("no day " + a, x.state(0, a, 0, 2), a == 0 ? 7 : -2);
            Due.due("no state " + a, x.state(0, 0, a, 51), a >= 0 && a <= 14 ? 0 : -2);
        }
        for (int what = -70; what < 200; what++) {
            int p = what % 10;
            boolean there = what >= 0 && what < 4 || what >= 10 && what < 60 && p < 3;
            Due.due("what " + what, x.state(0, 0, 0, what) == -2, !there);
        }
        Due.due("what", x.state(0, 0, 0, Integer.MAX_VALUE), -2);
        Due.due("what", x.state(0, 0, 0, Integer.MIN_VALUE), -2);
    }

    private static void drawn() {
        FerryLand x = Due.with(Lands.CAPE, null);
        for (int what = 0; what < 60; what++) {
            int p = what % 10;
            boolean person = what >= 10 && p < 3;
            int[] begin = {0, 0, 7, 4};
            int[] cells = {0, 7, 1};
            int want = what < 4 ? begin[what] : !person ? -2 : what < 20 ? cells[p] : 0;
            Due.due("none drawn, " + what, x.drawn(0, 12345, 0, what), want);
        }
        handDrawn(x);
        Due.due("61 times", x.drawn(0, 1, 61, 0), -2);
        Due.due("60 times", x.drawn(0, 1, 60, 0), 0);
        Due.due("-1 times", x.drawn(0, 1, -1, 0), -2);
        Due.due("no people", Due.tell(x, 0, NONE, ""), 1);
        Due.due("no people", x.drawn(1, 1, 0, 0), -2);
        Due.due("no people", x.drawn(1, 1, 5, 2), -2);
        for (int a : Lands.ODD) {
            Due.due("no land " + a, x.drawn(a, 0, 0, 2), a == 0 ? 7 : -2);
            Due.due("n " + a, x.drawn(0, 7, a, 0), a >= 0 && a <= 60 ? 0 : -2);
            Due.due("a seed " + a, x.drawn(0, a, 0, 2), 7);
            boolean there = a >= 0 && a < 4 || a >= 10 && a < 13;
            Due.due("what " + a, x.drawn(0, 0, 0, a) == -2, !there);
        }
    }

    /** The draws of seed 0, by the rule's own words; one person in the midst of a sea can go, wait and moor. */
    private static void handDrawn(FerryLand before) {
        FerryLand x = Due.with("size 8 8;man 4 4;afloat 1;", null);
        long seed = 0;
        int column = 4;
        int row = 4;
        int clock = 0;
        for (int n = 1; n <= 60; n++) {
            seed = (seed * 1103515245L + 12345L) & 0xffffffffL;
            seed = (seed * 1103515245L + 12345L) & 0xffffffffL;
            int number = (int) ((seed >> 16) % 8);
            int toColumn = column + (number == 1 ? 1 : number == 3 ? -1 : 0);
            int toRow = row + (number == 0 ? -1 : number == 2 ? 1 : 0);
            boolean may = number < 4 ? toColumn >= 0 && toColumn < 8 && toRow >= 0 && toRow < 8 : number > 5;
            column = may ? toColumn : column;
            row = may ? toRow : row;
            clock += may ? 1 : 0;
            Due.due("drawn cell " + n, x.drawn(0, 0, n, 10), row * 8 + column);
            Due.due("drawn clock " + n, x.drawn(0, 0, n, 20), clock);
        }
    }
}
