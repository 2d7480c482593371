/** Promises 8 to 10 and 25 with Terms 2 and 5, sentence by sentence: at each bound, below and above it. */
public final class EdgeDayTest {
    private static final int NONE = Due.NONE;
    private static final int LEVEL = 0;
    private static final int FINES = 1;
    private static final int WORK = 2;
    private static final int SOIL = 3;
    private static final int CELL = 10;
    private static final int CLOCK = 20;
    private static final int ASHORE = 30;
    private static final int REST = 40;
    private static final int FINED = 50;
    private static final int[] FAR = {Integer.MIN_VALUE, -1000, -2, 100, 1000, Integer.MAX_VALUE};
    /** Water at 0 and in the row below, soil at 1, 2, 3. */
    private static final String PIER = "size 4 2;row 0 0 3 5 9;level 2;";
    private static final String FIVE = "man 0 0;child 1 0;sleeper 2 0;man 3 0;child 3 1;";
    private static final String[] OF_A_PERSON = {"go P 1;", "work P;", "wait P;", "moor P;"};

    public static void main(String[] args) {
        deedsAsTold();
        deedNumbers();
        deedsHowMany();
        deedsWhat();
        noSuchDay();
        beginning();
        minutesOnSoil();
        limits();
        greatestLimits();
        finesOfKinds();
        minutesOnWater();
        restEndsOnSoil();
        afloatOfNone();
        goingInDirections();
        goingOverEdges();
        goingOntoOthers();
        workingOnSoil();
        workingTillNoneIsLeft();
        workingOnWater();
        workOfTwo();
        waiting();
        mooring();
        mooringForNoMinutes();
        mooringOnSoil();
        levels();
        levelAtHeights();
        levelCounts();
        clocksOf99();
        clocksOfWork();
        clocksOfMooring();
        clocksAreEachOnesOwn();
        noSuchPerson();
        nobody();
        stops();
        fullDays();
        statesUpToStop();
        statesWhat();
        landAndDayNumbers();
        theLandStaysAsTold();
        Due.finish("EdgeDayTest");
    }

    private static FerryLand day(String land, String day) {
        return Due.with(land, day);
    }

    private static void stop(String land, String day, int want) {
        Due.due("stop of " + day + " in " + land, day(land, day).stop(0, 0), want);
    }

    /** A state behind all deeds of a day, that all can be. */
    private static void behind(String land, String day, int what, int want) {
        int many = day.isEmpty() ? 0 : day.split(";").length;
        FerryLand x = day(land, day);
        Due.due("stop of " + day + " in " + land, x.stop(0, 0), many);
        Due.due("behind " + day + " in " + land + ": " + what, x.state(0, 0, many, what), want);
    }

    // Promise 8

    private static void deedsAsTold() {
        FerryLand x = day("", "go 0 0;go 4 3;work 0;work 4;wait 0;wait 4;moor 0;moor 4;level 0;level 9;");
        int[][] want = {{0, 0, 0}, {0, 4, 3}, {1, 0, NONE}, {1, 4, NONE}, {2, 0, NONE}, {2, 4, NONE}, {3, 0, NONE}, {3, 4, NONE}, {4, 0, NONE}, {4, 9, NONE}};
        for (int k = 0; k < want.length; k++) {
            for (int what = 0; what < 3; what++) {
                Due.due("deed " + k + ", " + what, x.deed(0, k, what), want[k][what]);
            }
        }
    }

    private static void deedNumbers() {
        for (int many : new int[] {0, 1, 2, 39, 40}) {
            FerryLand x = day("", "wait 3;".repeat(many));
            for (int k : new int[] {0, 1, 2, 38, 39, 40, 41}) {
                Due.due("deed " + k + " of " + many, x.deed(0, k, 1), k < many ? 3 : -2);
                Due.due("deed " + k + " of " + many, x.deed(0, k, 2), k < many ? NONE : -2);
            }
            for (int k : FAR) {
                Due.due("deed " + k + " of " + many, x.deed(0, k, 0), -2);
            }
        }
    }

    private static void deedsHowMany() {
        for (int many : new int[] {0, 1, 39, 40}) {
            FerryLand x = day("", "level 3;".repeat(many));
            Due.due("how many", x.deed(0, NONE, 0), many);
            for (int what : new int[] {-2, -1, 1, 2, 3, Integer.MIN_VALUE, Integer.MAX_VALUE}) {
                Due.due("how many, what " + what, x.deed(0, NONE, what), -2);
            }
        }
    }

    private static void deedsWhat() {
        FerryLand x = day("", "go 1 2;wait 3;");
        for (int k = 0; k < 2; k++) {
            for (int what : new int[] {-2, -1, 3, 4, 10, Integer.MIN_VALUE, Integer.MAX_VALUE}) {
                Due.due("what " + what, x.deed(0, k, what), -2);
            }
        }
        Due.due("behind refused ones", x.deed(0, 0, 2), 2);
    }

    private static void noSuchDay() {
        for (int many = 0; many < 3; many++) {
            FerryLand x = Due.with("", null);
            for (int i = 0; i < many; i++) {
                Due.tell(x, 1, NONE, "wait 1;".repeat(i + 1));
            }
            for (int d = -2; d < 4; d++) {
                boolean there = d >= 0 && d < many;
                Due.due("day " + d + " of " + many, x.deed(d, NONE, 0), there ? d + 1 : -2);
                Due.due("day " + d + " of " + many, x.deed(d, 0, 2), there ? NONE : -2);
                Due.due("day " + d + " of " + many, x.stop(0, d), there ? 0 : NONE);
                Due.due("day " + d + " of " + many, x.state(0, d, 0, 0), there ? 0 : -2);
            }
        }
    }

    // Term 2

    private static void beginning() {
        FerryLand x = day(PIER + FIVE + "work 1 0 7;work 0 0 20;work 3 1 20;hour 1;", "wait 0;");
        int[] cells = {0, 1, 2, 3, 7};
        Due.due("level", x.state(0, 0, 0, LEVEL), 2);
        Due.due("fines", x.state(0, 0, 0, FINES), 0);
        Due.due("all work, under water, too", x.state(0, 0, 0, WORK), 47);
        Due.due("on soil", x.state(0, 0, 0, SOIL), 0b01110);
        for (int p = 0; p < 5; p++) {
            Due.due("cell", x.state(0, 0, 0, CELL + p), cells[p]);
            for (int what = CLOCK; what <= FINED; what += 10) {
                Due.due("at 0", x.state(0, 0, 0, what + p), 0);
            }
        }
        // A second day of the same land begins anew.
        FerryLand y = day(PIER + "man 1 0;work 1 0 3;", "work 0;work 0;work 0;");
        Due.due("all done", y.state(0, 0, 3, WORK), 0);
        Due.due("another day", Due.tell(y, 1, NONE, "work 0;"), 1);
        Due.due("begins anew", y.state(0, 1, 0, WORK), 3);
        Due.due("begins anew", y.state(0, 1, 1, CLOCK), 1);
        Due.due("the first one again", y.state(0, 0, 0, WORK), 3);
    }

    private static void minutesOnSoil() {
        String land = PIER + "man 0 0;";
        String[] days = {"wait 0;go 0 1;", "wait 0;go 0 1;go 0 1;", "wait 0;go 0 1;go 0 1;wait 0;"};
        for (int i = 0; i < 3; i++) {
            behind(land, days[i], ASHORE, i + 1);
            behind(land, days[i], REST, 0);
            behind(land, days[i], CLOCK, i + 2);
        }
    }

    /** FINED if ASHORE is above LIMIT: at LIMIT not yet, above it by each minute. */
    private static void limits() {
        String[] kinds = {"man", "child", "sleeper"};
        int[] hours = {1, 2, 3, 4, 5, 12, 13, 37};
        for (int hour : hours) {
            for (int kind = 0; kind < 3; kind++) {
                int limit = kind != 1 ? hour : hour == 1 ? 1 : hour % 2 == 0 ? hour / 2 : (hour - 1) / 2;
                int fine = kind == 2 ? 2 : 1;
                String land = PIER + "hour " + hour + ";" + kinds[kind] + " 1 0;";
                behind(land, "wait 0;".repeat(limit - 1), FINED, 0);
                behind(land, "wait 0;".repeat(limit), FINED, 0);
                behind(land, "wait 0;".repeat(limit), ASHORE, limit);
                behind(land, "wait 0;".repeat(limit + 1), FINED, fine);
                behind(land, "wait 0;".repeat(limit + 2), FINED, 2 * fine);
                behind(land, "wait 0;".repeat(limit + 3), FINED, 3 * fine);
            }
        }
    }

    private static void greatestLimits() {
        String child = PIER + "hour 60;child 1 0;";
        behind(child, "wait 0;".repeat(30), FINED, 0);
        behind(child, "wait 0;".repeat(31), FINED, 1);
        String odd = PIER + "hour 59;child 1 0;";
        behind(odd, "wait 0;".repeat(29), FINED, 0);
        behind(odd, "wait 0;".repeat(30), FINED, 1);
        for (String kind : new String[] {"man", "sleeper"}) {
            behind(PIER + "hour 39;" + kind + " 1 0;", "wait 0;".repeat(39), FINED, 0);
            behind(PIER + "hour 39;" + kind + " 1 0;", "wait 0;".repeat(40), FINED, kind.equals("man") ? 1 : 2);
            behind(PIER + "hour 40;" + kind + " 1 0;", "wait 0;".repeat(40), FINED, 0);
            behind(PIER + "hour 60;" + kind + " 1 0;", "wait 0;".repeat(40), FINED, 0);
        }
    }

    private static void finesOfKinds() {
        FerryLand x = day(PIER + "hour 1;man 1 0;child 2 0;sleeper 3 0;man 0 0;", "wait 0;wait 1;wait 2;wait 3;wait 0;wait 1;wait 2;wait 3;");
        Due.due("no fines at the limit", x.state(0, 0, 4, FINES), 0);
        int[] want = {1, 1, 2, 0};
        for (int p = 0; p < 4; p++) {
            Due.due("fined " + p, x.state(0, 0, 8, FINED + p), want[p]);
        }
        Due.due("all fines", x.state(0, 0, 8, FINES), 4);
        // What ends on WATER is no fine, however long he was ashore.
        behind(PIER + "hour 1;afloat 9;man 1 0;", "wait 0;wait 0;go 0 2;wait 0;", FINED, 1);
        behind(PIER + "hour 1;afloat 9;man 1 0;", "wait 0;wait 0;go 0 2;wait 0;", ASHORE, 2);
        behind(PIER + "hour 1;afloat 9;man 1 0;", "wait 0;wait 0;go 0 2;go 0 0;", FINED, 2);
    }

    /** If REST is AFLOAT or more, ASHORE is 0: one less, at it, one more. */
    private static void minutesOnWater() {
        for (int afloat : new int[] {0, 1, 2, 3, 19, 20}) {
            String land = PIER + "afloat " + afloat + ";man 0 0;";
            for (int rest : new int[] {1, 2, afloat - 1, afloat, afloat + 1}) {
                if (rest > 0) {
                    String day = "go 0 1;go 0 3;" + "wait 0;".repeat(rest - 1);
                    behind(land, day, REST, rest);
                    behind(land, day, ASHORE, rest >= afloat ? 0 : 1);
                    behind(land, day, CLOCK, rest + 1);
                }
            }
        }
    }

    private static void restEndsOnSoil() {
        String land = PIER + "afloat 2;man 1 0;";
        behind(land, "go 0 2;go 0 0;go 0 2;", REST, 1);
        behind(land, "go 0 2;go 0 0;go 0 2;", ASHORE, 1);
        behind(land, "go 0 1;go 0 2;go 0 0;go 0 2;", ASHORE, 2);
        behind(land, "go 0 1;go 0 2;wait 0;", ASHORE, 0);
    }

    private static void afloatOfNone() {
        String land = PIER + "afloat 0;man 1 0;";
        behind(land, "wait 0;wait 0;", ASHORE, 2);
        behind(land, "wait 0;wait 0;go 0 2;", ASHORE, 0);
        behind(land, "wait 0;wait 0;go 0 2;", REST, 1);
    }

    private static void goingInDirections() {
        String land = "size 3 3;man 1 1;";
        int[] want = {1, 5, 7, 3};
        for (int direction = 0; direction < 4; direction++) {
            behind(land, "go 0 " + direction + ";", CELL, want[direction]);
            behind(land, "go 0 " + direction + ";", CLOCK, 1);
            behind(land, "go 0 " + direction + ";", REST, 1);
        }
    }

    /** At the land's edges there is no such CELL: also the next row's is none. */
    private static void goingOverEdges() {
        for (int[] size : new int[][] {{2, 2}, {3, 4}, {8, 8}, {8, 2}, {2, 8}}) {
            for (int corner = 0; corner < 4; corner++) {
                int column = corner % 2 * (size[0] - 1);
                int row = corner / 2 * (size[1] - 1);
                int cell = row * size[0] + column;
                String land = "size " + size[0] + " " + size[1] + ";man " + column + " " + row + ";";
                int[] to = {cell - size[0], cell + 1, cell + size[0], cell - 1};
                boolean[] may = {row > 0, column == 0, row == 0, column > 0};
                for (int direction = 0; direction < 4; direction++) {
                    String day = "go 0 " + direction + ";";
                    if (may[direction]) {
                        behind(land, day, CELL, to[direction]);
                    } else {
                        stop(land, day, 0);
                        stop(land, "wait 0;" + day, 1);
                    }
                }
            }
        }
        stop("size 8 8;man 0 0;", "go 0 1;".repeat(8), 7);
        stop("size 8 8;man 0 0;", "go 0 2;".repeat(8), 7);
        stop("size 2 8;man 1 7;", "go 0 0;".repeat(8), 7);
        stop("size 8 2;man 7 1;", "go 0 3;".repeat(8), 7);
        stop("size 3 3;man 2 0;", "go 0 2;go 0 1;", 1);
        stop("size 3 3;man 0 1;", "go 0 2;go 0 3;", 1);
    }

    private static void goingOntoOthers() {
        String land = "size 2 2;man 0 0;man 1 0;child 1 0;";
        behind(land, "go 0 1;", CELL, 1);
        behind(land, "go 0 1;", CELL + 1, 1);
        behind(land, "go 0 1;go 1 3;go 2 3;go 0 3;", CELL, 0);
    }

    private static void workingOnSoil() {
        String land = PIER + "work 1 0 2;work 2 0 9;man 1 0;";
        behind(land, "work 0;", WORK, 10);
        behind(land, "work 0;", CLOCK, 1);
        behind(land, "work 0;", ASHORE, 1);
        behind(land, "work 0;", CELL, 1);
        // The minute is one as others are: it can be fined.
        behind(land + "hour 1;", "work 0;work 0;", FINED, 1);
        // Without WORK it can't be.
        stop(PIER + "work 2 0 9;man 1 0;", "work 0;", 0);
        stop(PIER + "work 1 0 9;work 1 0 0;man 1 0;", "work 0;", 0);
    }

    private static void workingTillNoneIsLeft() {
        for (int work : new int[] {1, 2, 19, 20}) {
            String land = PIER + "work 1 0 " + work + ";man 1 0;";
            behind(land, "work 0;".repeat(work), WORK, 0);
            behind(land, "work 0;".repeat(work - 1), WORK, 1);
            stop(land, "work 0;".repeat(work + 1), work);
        }
    }

    private static void workingOnWater() {
        String land = PIER + "work 0 0 5;work 1 0 5;man 0 0;man 1 0;";
        stop(land, "work 0;", 0);
        stop(land, "level 3;work 1;", 1);
        stop(land, "level 2;work 1;", 2);
        stop(land, "level 3;level 2;work 1;", 3);
        // What was under water can be done when the level has fallen.
        String shoal = "size 2 2;row 0 1 1;row 1 1 1;level 1;work 0 0 5;man 0 0;";
        stop(shoal, "work 0;", 0);
        stop(shoal, "level 0;work 0;", 2);
    }

    private static void workOfTwo() {
        String land = PIER + "work 1 0 2;man 1 0;child 1 0;";
        behind(land, "work 0;work 1;", WORK, 0);
        stop(land, "work 0;work 1;work 0;", 2);
        stop(land, "work 1;work 0;work 1;", 2);
    }

    private static void waiting() {
        behind(PIER + "man 0 0;", "wait 0;", REST, 1);
        behind(PIER + "man 0 0;", "wait 0;", CLOCK, 1);
        behind(PIER + "man 0 0;", "wait 0;", CELL, 0);
        behind(PIER + "man 1 0;", "wait 0;", ASHORE, 1);
        behind(PIER + "man 1 0;", "wait 0;", CLOCK, 1);
        behind(PIER + "man 1 0;", "wait 0;", CELL, 1);
    }

    private static void mooring() {
        for (int afloat : new int[] {1, 2, 19, 20}) {
            String land = PIER + "afloat " + afloat + ";man 1 0;";
            behind(land, "go 0 2;moor 0;", CLOCK, afloat + 1);
            behind(land, "go 0 2;moor 0;", REST, afloat + 1);
            behind(land, "wait 0;go 0 2;moor 0;", ASHORE, 0);
            behind(land, "go 0 2;moor 0;moor 0;", REST, 2 * afloat + 1);
            behind(land, "go 0 2;moor 0;", CELL, 5);
        }
    }

    /** None, if AFLOAT is 0: no minute, no REST by it, ASHORE as it was. */
    private static void mooringForNoMinutes() {
        String land = PIER + "afloat 0;man 1 0;";
        behind(land, "wait 0;level 3;moor 0;", CLOCK, 1);
        behind(land, "wait 0;level 3;moor 0;", REST, 0);
        behind(land, "wait 0;level 3;moor 0;", ASHORE, 1);
        behind(land, "wait 0;level 3;moor 0;moor 0;wait 0;", ASHORE, 0);
        stop(land, "level 3;" + "moor 0;".repeat(39), 40);
    }

    private static void mooringOnSoil() {
        for (int afloat : new int[] {0, 1, 20}) {
            String land = PIER + "afloat " + afloat + ";man 1 0;";
            stop(land, "moor 0;", 0);
            stop(land, "go 0 2;moor 0;go 0 0;moor 0;", 3);
            stop(land, "level 3;moor 0;level 2;moor 0;", 3);
        }
    }

    private static void levels() {
        String land = PIER + "man 1 0;man 0 0;";
        for (int level = 0; level < 10; level++) {
            behind(land, "level " + level + ";", LEVEL, level);
            behind(land, "level 5;level " + level + ";", LEVEL, level);
            behind(land, "wait 0;wait 1;level " + level + ";", CLOCK, 1);
            behind(land, "wait 0;wait 1;level " + level + ";", ASHORE, 1);
            behind(land, "wait 0;wait 1;level " + level + ";", REST, 0);
            behind(land, "wait 0;wait 1;level " + level + ";", REST + 1, 1);
            behind(land, "wait 0;wait 1;level " + level + ";", CELL, 1);
        }
    }

    private static void levelAtHeights() {
        // The man stands at a height of 3.
        String land = PIER + "man 1 0;";
        int[] onSoil = {1, 1, 1, 0, 0};
        for (int level = 0; level < 5; level++) {
            behind(land, "level " + level + ";", SOIL, onSoil[level]);
            behind(land, "level " + level + ";wait 0;", ASHORE, onSoil[level]);
            behind(land, "level " + level + ";wait 0;", REST, 1 - onSoil[level]);
        }
        behind("size 2 2;row 0 9 9;row 1 9 9;level 9;man 0 0;", "level 8;", SOIL, 1);
        behind("size 2 2;row 0 9 9;row 1 9 9;level 8;man 0 0;", "level 9;", SOIL, 0);
    }

    private static void levelCounts() {
        // From now on, not before: the minute behind it, not the one before it.
        String land = PIER + "afloat 1;man 1 0;";
        FerryLand x = day(land, "wait 0;level 3;wait 0;level 2;wait 0;");
        int[] ashore = {0, 1, 1, 0, 0, 1};
        int[] levels = {2, 2, 3, 3, 2, 2};
        for (int n = 0; n < 6; n++) {
            Due.due("ashore behind " + n, x.state(0, 0, n, ASHORE), ashore[n]);
            Due.due("level behind " + n, x.state(0, 0, n, LEVEL), levels[n]);
        }
    }

    /** No CLOCK can pass 99: it can come to 99. */
    private static void clocksOf99() {
        String land = "size 2 2;afloat 20;man 0 0;";
        String eighty = "moor 0;moor 0;moor 0;moor 0;";
        behind(land, eighty + "wait 0;".repeat(18), CLOCK, 98);
        behind(land, eighty + "wait 0;".repeat(19), CLOCK, 99);
        stop(land, eighty + "wait 0;".repeat(20), 23);
        stop(land, eighty + "wait 0;".repeat(18) + "go 0 1;", 23);
        stop(land, eighty + "wait 0;".repeat(19) + "go 0 1;", 23);
        stop(land, eighty + "wait 0;".repeat(19) + "moor 0;", 23);
        // A level has no minutes.
        behind(land, eighty + "wait 0;".repeat(19) + "level 9;level 0;", CLOCK, 99);
        stop(land, eighty + "wait 0;".repeat(19) + "level 3;wait 0;", 24);
    }

    private static void clocksOfWork() {
        String land = "size 2 2;row 0 1 1;row 1 1 1;level 1;afloat 20;work 0 0 9;man 0 0;";
        String eighty = "moor 0;moor 0;moor 0;moor 0;level 0;";
        behind(land, eighty + "wait 0;".repeat(18) + "work 0;", CLOCK, 99);
        stop(land, eighty + "wait 0;".repeat(18) + "work 0;work 0;", 24);
        stop(land, eighty + "wait 0;".repeat(19) + "work 0;", 24);
        FerryLand x = day(land, eighty + "wait 0;".repeat(19) + "work 0;");
        Due.due("no work is done", x.state(0, 0, 24, WORK), 9);
    }

    private static void clocksOfMooring() {
        String land = "size 2 2;afloat 20;man 0 0;";
        String sixty = "moor 0;moor 0;moor 0;";
        behind(land, sixty + "wait 0;".repeat(19) + "moor 0;", CLOCK, 99);
        stop(land, sixty + "wait 0;".repeat(20) + "moor 0;", 23);
        stop(land, sixty + "moor 0;moor 0;", 4);
        behind("size 2 2;afloat 3;man 0 0;", "moor 0;".repeat(33), CLOCK, 99);
        stop("size 2 2;afloat 3;man 0 0;", "moor 0;".repeat(34), 33);
        behind("size 2 2;afloat 11;man 0 0;", "moor 0;".repeat(9), REST, 99);
        stop("size 2 2;afloat 11;man 0 0;", "moor 0;".repeat(10), 9);
    }

    private static void clocksAreEachOnesOwn() {
        String land = "size 2 2;afloat 20;man 0 0;man 0 0;";
        String full = "moor 0;moor 0;moor 0;moor 0;" + "wait 0;".repeat(19);
        behind(land, full + "wait 1;moor 1;", CLOCK + 1, 21);
        behind(land, full + "wait 1;moor 1;", CLOCK, 99);
        stop(land, full + "wait 1;wait 0;", 24);
    }

    private static void noSuchPerson() {
        // Five who stand on soil with work, or on water.
        String soil = "work 1 0 20;hour 60;";
        for (int many = 1; many <= 5; many++) {
            for (int p = 0; p < 5; p++) {
                for (String deed : OF_A_PERSON) {
                    String land = PIER + soil + (deed.startsWith("moor") ? "man 0 0;" : "man 1 0;").repeat(many);
                    String day = deed.replace("P", "" + p);
                    stop(land, day, p < many ? 1 : 0);
                    stop(land, "level 2;" + day + "level 2;", p < many ? 3 : 1);
                }
            }
        }
    }

    private static void nobody() {
        for (String deed : OF_A_PERSON) {
            stop(PIER, deed.replace("P", "0"), 0);
        }
        behind(PIER, "level 5;level 6;", LEVEL, 6);
        behind(PIER, "level 5;", SOIL, 0);
        behind(PIER, "level 5;", FINES, 0);
        Due.due("nobody's cell", day(PIER, "").state(0, 0, 0, CELL), -2);
    }

    // Promise 9

    private static void stops() {
        String land = PIER + "man 0 0;";
        stop(land, "", 0);
        stop(land, "wait 0;", 1);
        stop(land, "go 0 0;", 0);
        stop(land, "go 0 0;wait 0;wait 0;", 0);
        stop(land, "wait 0;go 0 0;wait 0;", 1);
        stop(land, "wait 0;wait 0;go 0 0;", 2);
        stop(land, "wait 0;go 0 0;wait 0;go 0 0;", 1);
    }

    private static void fullDays() {
        String land = PIER + "man 0 0;";
        stop(land, "wait 0;".repeat(39), 39);
        stop(land, "wait 0;".repeat(40), 40);
        stop(land, "wait 0;".repeat(39) + "go 0 0;", 39);
        stop(land, "go 0 0;" + "wait 0;".repeat(39), 0);
        behind(land, "wait 0;".repeat(40), CLOCK, 40);
    }

    // Promise 10

    private static void statesUpToStop() {
        String[] days = {"", "wait 0;", "go 0 0;", "wait 0;wait 0;go 0 0;wait 0;", "wait 0;".repeat(40), "wait 0;".repeat(39) + "work 0;"};
        int[] stops = {0, 1, 0, 2, 40, 39};
        for (int i = 0; i < days.length; i++) {
            FerryLand x = day(PIER + "man 0 0;", days[i]);
            Due.due("stop", x.stop(0, 0), stops[i]);
            for (int n : new int[] {-2, -1, 0, 1, 2, 3, 4, 5, 38, 39, 40, 41, Integer.MIN_VALUE, Integer.MAX_VALUE}) {
                boolean there = n >= 0 && n <= stops[i];
                Due.due("state " + n + ", stop " + stops[i], x.state(0, 0, n, CLOCK), there ? n : -2);
                Due.due("state " + n + ", stop " + stops[i], x.state(0, 0, n, LEVEL), there ? 2 : -2);
                Due.due("state " + n + ", stop " + stops[i], x.state(0, 0, n, 99), -2);
            }
        }
    }

    private static void statesWhat() {
        StringBuilder people = new StringBuilder();
        for (int many = 0; many < 6; many++) {
            FerryLand x = day(PIER + people, "level 7;");
            for (int what = -2; what < 70; what++) {
                int p = what % 10;
                int want = -2;
                if (what >= 0 && what < 4) {
                    want = what == 0 ? 7 : 0;
                } else if (what >= 10 && what < 60 && p < many) {
                    want = what < 20 ? 4 : 0;
                }
                Due.due("what " + what + ", people " + many, x.state(0, 0, 1, what), want);
            }
            for (int what : FAR) {
                Due.due("what " + what, x.state(0, 0, 1, what), -2);
            }
            people.append("man 0 1;");
        }
    }

    private static void landAndDayNumbers() {
        FerryLand x = day(PIER + "man 0 0;", "wait 0;");
        for (int wrong : new int[] {-2, -1, 1, 2, 3, Integer.MIN_VALUE, Integer.MAX_VALUE}) {
            Due.due("stop of land " + wrong, x.stop(wrong, 0), NONE);
            Due.due("stop of day " + wrong, x.stop(0, wrong), NONE);
            Due.due("stop of both " + wrong, x.stop(wrong, wrong), NONE);
            Due.due("state of land " + wrong, x.state(wrong, 0, 0, 0), -2);
            Due.due("state of day " + wrong, x.state(0, wrong, 0, 0), -2);
            Due.due("behind a refused one", x.stop(0, 0), 1);
            Due.due("behind a refused one", x.state(0, 0, 1, CLOCK), 1);
        }
        Due.due("second land", Due.tell(x, 0, NONE, PIER), 1);
        Due.due("second day", Due.tell(x, 1, NONE, "level 1;level 3;"), 1);
        int[][] want = {{1, 2}, {0, 2}};
        for (int land = 0; land < 2; land++) {
            for (int d = 0; d < 2; d++) {
                Due.due("stop of " + land + ", " + d, x.stop(land, d), want[land][d]);
            }
        }
        Due.due("no land 2", x.stop(2, 0), NONE);
        Due.due("no day 2", x.stop(0, 2), NONE);
        Due.due("no land 2", x.state(2, 1, 0, 0), -2);
        Due.due("no day 2", x.state(1, 2, 0, 0), -2);
    }

    private static void theLandStaysAsTold() {
        FerryLand x = day(PIER + "work 1 0 3;man 1 0;", "work 0;work 0;level 9;go 0 1;");
        Due.due("lived", x.state(0, 0, 4, WORK), 1);
        Due.due("work as told", x.cell(0, 1, true), 3);
        Due.due("level as told", x.land(0, 2), 2);
        Due.due("cell as told", x.land(0, 20), 1);
        Due.due("relay as told", x.relay(0, 1, 0, 2), 1);
        Due.due("lived again", x.stop(0, 0), 4);
    }
}
