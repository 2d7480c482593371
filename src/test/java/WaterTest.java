/** Promises 14 to 17, 27 and 28: straits, droughts, watchers, moorings, digging and damming. */
public final class WaterTest {
    private static final int NONE = Due.NONE;

    public static void main(String[] args) {
        straits();
        droughts();
        watches();
        moorings();
        digging();
        damming();
        wrong();
        Due.finish("WaterTest");
    }

    private static void straits() {
        FerryLand x = Due.with("size 4 2;row 0 0 3 1 9;row 1 7 8 2 4;level 9;", null);
        // Of 0 to 6: over 3, 1, 2, or over 7, 8.
        int[][] rows = {{0, 0, 0}, {3, 3, 9}, {0, 2, 3}, {0, 6, 3}, {2, 6, 2}, {6, 2, 2}, {0, 7, 4}, {0, 4, 7}, {4, 5, 8}, {4, 7, 7}, {3, 0, 9}, {1, 1, 3}};
        for (int[] row : rows) {
            Due.due("strait " + row[0] + " " + row[1], x.strait(0, row[0], row[1]), row[2]);
        }
        Due.due("no cell", x.strait(0, 0, 8), NONE);
        Due.due("no cell", x.strait(0, 8, 0), NONE);
        Due.due("no cell", x.strait(0, -1, 0), NONE);
        Due.due("wide", Due.tell(x, 0, 0, Lands.WIDE), 0);
        Due.due("wide", x.strait(0, 0, 63), 9);
        Due.due("wide", x.strait(0, 63, 63), 3);
        // The end of one row and the beginning of the next one are not beside one another.
        Due.due("rows", Due.tell(x, 0, 0, "size 3 2;row 0 9 9 0;row 1 0 9 9;"), 0);
        Due.due("rows", x.strait(0, 2, 3), 9);
    }

    private static void droughts() {
        FerryLand x = Due.with("size 4 3;row 0 0 5 2 9;row 1 5 1 5 0;row 2 3 5 0 6;man 0 0;child 1 0;sleeper 3 2;level 7;", null);
        // by level: soil, pools, largest, isles, shore, stranded, dry, volume
        int[][] rows = {
            {9, 3, 1, 2, 8, 6, 4, 0},
            {8, 4, 1, 3, 12, 6, 4, 3},
            {7, 5, 1, 5, 15, 6, 4, 7},
        };
        for (int by = 0; by < rows.length; by++) {
            for (int what = 0; what < 8; what++) {
                Due.due("drought " + by + " " + what, x.drought(0, by, what), rows[by][what]);
            }
        }
        Due.due("dry", x.drought(0, 0, 6), 4);
        Due.due("dry, whatever the level is", x.drought(0, 9, 6), 4);
        Due.due("dry by no level", x.drought(0, 10, 6), NONE);
        Due.due("dry by no level", x.drought(0, -1, 6), NONE);
        // By 4: water at 0, 2, 5, 7, 8, 10.
        Due.due("soil by 4", x.drought(0, 4, 0), 6);
        Due.due("pools by 4", x.drought(0, 4, 1), 6);
        Due.due("largest by 4", x.drought(0, 4, 2), 1);
        Due.due("isles by 4", x.drought(0, 4, 3), 6);
        Due.due("shore by 4", x.drought(0, 4, 4), 17);
        Due.due("stranded by 4", x.drought(0, 4, 5), 6);
        Due.due("volume by 4", x.drought(0, 4, 7), 4 + 2 + 3 + 4 + 1 + 4);
        // By 5: soil at 3 and 11 alone.
        int[] five = {2, 1, 10, 2, 4, 4, 4, 5 + 3 + 4 + 5 + 2 + 5};
        int[] nine = {0, 1, 12, 0, 0, 0, 4, 108 - 41};
        for (int what = 0; what < 8; what++) {
            Due.due("by 5: " + what, x.drought(0, 5, what), five[what]);
            Due.due("by 9: " + what, x.drought(0, 9, what), nine[what]);
        }
        Due.due("by 10", x.drought(0, 10, 0), NONE);
        Due.due("by -1", x.drought(0, -1, 7), NONE);
        Due.due("what 8", x.drought(0, 0, 8), NONE);
        Due.due("what -1", x.drought(0, 0, -1), NONE);
        Due.due("dry land", Due.tell(x, 0, 0, Lands.DRY), 0);
        int[] dry = {4, 0, 0, 1, 0, 1, 9, 0};
        for (int what = 0; what < 8; what++) {
            Due.due("dry: " + what, x.drought(0, 0, what), dry[what]);
        }
        Due.due("sea", Due.tell(x, 0, 0, Lands.SEA), 0);
        Due.due("sea", x.drought(0, 3, 2), 36);
        Due.due("sea", x.drought(0, 3, 7), 108);
        Due.due("sea's dry", x.drought(0, 3, 6), 9);
        Due.due("wide", Due.tell(x, 0, 0, Lands.WIDE), 0);
        Due.due("wide", x.drought(0, 8, 0), 62);
        Due.due("wide", x.drought(0, 8, 3), 1);
        Due.due("wide", x.drought(0, 8, 4), 4);
        Due.due("wide", x.drought(0, 9, 2), 64);
        Due.due("wide's dry", x.drought(0, 0, 6), 8);
    }

    private static void watches() {
        FerryLand x = Due.with(Lands.CAPE, null);
        // 0 sees 1, 2; 3 sees 2, 1; 4 sees 5, 6; 7 sees 6, 5; 9 sees 5, 1; 10 sees 6, 2.
        watch(x, 1, 2, 0, NONE, NONE);
        watch(x, 2, 4, 0, 4, NONE);
        watch(x, 3, 4, 0, 3, 4);
        Due.due("sea", Due.tell(x, 0, 0, Lands.SEA), 0);
        watch(x, 1, 0, 0, NONE, NONE);
        watch(x, 2, 0, 0, 1, NONE);
        watch(x, 3, 0, 0, 1, 2);
        Due.due("dry", Due.tell(x, 0, 0, Lands.DRY), 0);
        for (int n = 1; n < 4; n++) {
            watch(x, n, 0, NONE, NONE, NONE);
        }
        Due.due("wide", Due.tell(x, 0, 0, Lands.WIDE), 0);
        watch(x, 1, 14, 0, NONE, NONE);
        watch(x, 2, 26, 0, 63, NONE);
        watch(x, 3, 26, 0, 63, NONE);
        // Water in the midst sees four ways; soil behind water is not seen.
        Due.due("cross", Due.tell(x, 0, 0, "size 5 5;row 0 9 9 9 9 9;row 1 9 9 9 9 9;row 2 9 9 0 0 9;row 3 9 9 9 9 9;row 4 9 9 9 9 9;"), 0);
        watch(x, 1, 6, 12, NONE, NONE);
        watch(x, 2, 11, 12, 13, NONE);
        Due.due("n 0", x.watch(0, 0, 0), NONE);
        Due.due("n 4", x.watch(0, 4, 0), NONE);
        Due.due("what 4", x.watch(0, 3, 4), NONE);
        Due.due("what -1", x.watch(0, 3, -1), NONE);
    }

    private static void watch(FerryLand x, int n, int... want) {
        for (int what = 0; what < 4; what++) {
            Due.due("watch " + n + " " + what, x.watch(0, n, what), want[what]);
        }
    }

    private static void moorings() {
        FerryLand x = Due.with(Lands.CAPE, null);
        // Beside soil: 0 3 4 7 9 10; beside one another: 0 4, 3 7, 9 10.
        Due.due("moored", x.moored(0, false), 3);
        Due.due("set", x.moored(0, true), 0b010011);
        Due.due("sea", Due.tell(x, 0, 0, Lands.SEA), 0);
        Due.due("none beside soil", x.moored(0, false), 0);
        Due.due("none beside soil", x.moored(0, true), 0);
        Due.due("dry", Due.tell(x, 0, 0, Lands.DRY), 0);
        Due.due("no water", x.moored(0, false), 0);
        Due.due("no water", x.moored(0, true), 0);
        // A row of water, soil below: 0 to 3 in a row; of the sets of two the least number.
        Due.due("quay", Due.tell(x, 0, 0, "size 4 2;row 1 9 9 9 9;"), 0);
        Due.due("quay", x.moored(0, false), 2);
        Due.due("quay's set", x.moored(0, true), 0b0101);
        // A chess board: as many as there may be, but of the first 14 alone.
        Due.due("checks", Due.tell(x, 0, 0, "size 8 8;row 0 9 0 9 0 9 0 9 0;row 1 0 9 0 9 0 9 0 9;row 2 9 0 9 0 9 0 9 0;row 3 0 9 0 9 0 9 0 9;"
            + "row 4 9 0 9 0 9 0 9 0;row 5 0 9 0 9 0 9 0 9;row 6 9 0 9 0 9 0 9 0;row 7 0 9 0 9 0 9 0 9;"), 0);
        Due.due("fourteen", x.moored(0, false), 14);
        Due.due("fourteen's set", x.moored(0, true), (1 << 14) - 1);
        // Eight in a row above the soil, then eight below it: the first 14 are rows of 8 and 6.
        Due.due("bar", Due.tell(x, 0, 0, "size 8 3;row 1 9 9 9 9 9 9 9 9;"), 0);
        Due.due("bar", x.moored(0, false), 7);
        Due.due("bar's set", x.moored(0, true), 0b01010101010101);
        Due.due("wide", Due.tell(x, 0, 0, Lands.WIDE), 0);
        Due.due("wide", x.moored(0, false), 2);
        Due.due("wide's set: the first cell and the last", x.moored(0, true), 0b11);
        // A cell that must be left out that two others may stay: 1 is beside 0, 2.
        Due.due("bay", Due.tell(x, 0, 0, "size 3 2;row 1 9 9 9;"), 0);
        Due.due("bay", x.moored(0, true), 0b101);
        Due.due("four", Due.tell(x, 0, 0, "size 4 4;row 0 9 0 9 9;row 1 9 0 0 9;row 2 9 0 0 9;row 3 9 9 9 9;"), 0);
        Due.due("four", x.moored(0, false), 3);
        // 1 5 6 9 10 in places 0 to 4: 0-1, 1-2, 1-3, 2-4, 3-4; of threes only 0 2 3.
        Due.due("four's set", x.moored(0, true), 0b01101);
        leastNumber(x);
    }

    /** Where the first row by cells is {0, 3}, the least number is {1, 2}. */
    private static void leastNumber(FerryLand x) {
        // Water 0, 1, 4, 5 of a 4 by 4 land: places 0 1 2 3; beside: 0-1, 0-2, 1-3, 2-3.
        Due.due("square", Due.tell(x, 0, 0, "size 4 4;row 0 0 0 9 9;row 1 0 0 9 9;row 2 9 9 9 9;row 3 9 9 9 9;"), 0);
        // Cell 0 is not beside soil: places of 1, 4, 5 are 0, 1, 2.
        Due.due("square", x.moored(0, true), 0b011);
        // Soil at 0, too: 1 2 5 6 with all four beside soil.
        Due.due("ring", Due.tell(x, 0, 0, "size 4 4;row 0 9 9 9 9;row 1 9 0 0 9;row 2 9 0 0 9;row 3 9 9 9 9;"), 0);
        Due.due("ring", x.moored(0, false), 2);
        Due.due("ring's set", x.moored(0, true), 0b0110);
    }

    private static void digging() {
        FerryLand x = Due.with(Lands.CAPE, null);
        Due.due("cape: any one", x.dig(0, false), 1);
        Due.due("cape: how large", x.dig(0, true), 9);
        Due.due("dry", Due.tell(x, 0, 0, Lands.DRY), 0);
        Due.due("dry", x.dig(0, false), 0);
        Due.due("dry", x.dig(0, true), 1);
        Due.due("sea", Due.tell(x, 0, 0, Lands.SEA), 0);
        Due.due("no soil", x.dig(0, false), NONE);
        Due.due("no soil", x.dig(0, true), NONE);
        // Two lakes of 2 and 3, joined at 7 alone: 6 with it.
        Due.due("lakes", Due.tell(x, 0, 0, "size 5 3;row 0 9 9 9 9 9;row 1 0 0 9 0 0;row 2 9 9 9 9 0;"), 0);
        Due.due("lakes", x.dig(0, false), 7);
        Due.due("lakes", x.dig(0, true), 6);
        Due.due("wide", Due.tell(x, 0, 0, Lands.WIDE), 0);
        Due.due("wide", x.dig(0, false), 1);
        Due.due("wide", x.dig(0, true), 2);
        // What is dug away from the largest lake leaves it as it is; of several the least.
        Due.due("far", Due.tell(x, 0, 0, "size 2 8;row 0 9 9;row 1 9 9;row 2 9 9;row 3 9 9;row 4 9 9;row 5 9 9;row 6 9 0;row 7 0 0;"), 0);
        Due.due("far", x.dig(0, false), 11);
        Due.due("far", x.dig(0, true), 4);
    }

    private static void damming() {
        FerryLand x = Due.with(Lands.CAPE, null);
        Due.due("cape: two of a ring", x.dam(0, false), 4);
        Due.due("cape: how many", x.dam(0, true), 2);
        Due.due("dry", Due.tell(x, 0, 0, Lands.DRY), 0);
        Due.due("no water", x.dam(0, false), NONE);
        Due.due("no water", x.dam(0, true), NONE);
        Due.due("sea", Due.tell(x, 0, 0, Lands.SEA), 0);
        Due.due("sea", x.dam(0, false), 0);
        Due.due("sea", x.dam(0, true), 1);
        Due.due("cross", Due.tell(x, 0, 0, "size 3 3;row 0 9 0 9;row 2 9 0 9;"), 0);
        Due.due("cross", x.dam(0, false), 4);
        Due.due("cross", x.dam(0, true), 4);
        // Two single ones: one is left.
        Due.due("wide", Due.tell(x, 0, 0, Lands.WIDE), 0);
        Due.due("wide", x.dam(0, false), 0);
        Due.due("wide", x.dam(0, true), 1);
        Due.due("one", Due.tell(x, 0, 0, "size 2 2;row 0 9 9;row 1 9 0;"), 0);
        Due.due("one", x.dam(0, false), 3);
        Due.due("one", x.dam(0, true), 0);
    }

    private static void wrong() {
        FerryLand x = Due.with(Lands.CAPE, null);
        for (int a : Lands.ODD) {
            boolean cell = a >= 0 && a < 12;
            Due.due("strait land " + a, x.strait(a, 1, 1), a == 0 ? 5 : NONE);
            Due.due("strait a " + a, x.strait(0, a, 1) == NONE, !cell);
            Due.due("strait b " + a, x.strait(0, 1, a) == NONE, !cell);
            Due.due("drought land " + a, x.drought(a, 0, 0), a == 0 ? 4 : NONE);
            Due.due("drought land " + a, x.drought(a, 0, 6), a == 0 ? 9 : NONE);
            Due.due("drought level " + a, x.drought(0, a, 1), a >= 0 && a < 10 ? 1 : NONE);
            Due.due("drought level " + a, x.drought(0, a, 6), a >= 0 && a < 10 ? 9 : NONE);
            Due.due("drought what " + a, x.drought(0, 0, a) == NONE, a < 0 || a > 7);
            Due.due("watch land " + a, x.watch(a, 1, 0), a == 0 ? 2 : NONE);
            Due.due("watch n " + a, x.watch(0, a, 1), a > 0 && a < 4 ? 0 : NONE);
            Due.due("watch what " + a, x.watch(0, 3, a), a >= 0 && a < 4 ? new int[] {4, 0, 3, 4}[a] : NONE);
            Due.due("moored " + a, x.moored(a, false), a == 0 ? 3 : NONE);
            Due.due("moored " + a, x.moored(a, true), a == 0 ? 0b010011 : NONE);
            Due.due("dig " + a, x.dig(a, true), a == 0 ? 9 : NONE);
            Due.due("dig " + a, x.dig(a, false), a == 0 ? 1 : NONE);
            Due.due("dam " + a, x.dam(a, true), a == 0 ? 2 : NONE);
            Due.due("dam " + a, x.dam(a, false), a == 0 ? 4 : NONE);
        }
    }
}
