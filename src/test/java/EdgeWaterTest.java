/** Promises 14 to 17, 27 and 28, sentence by sentence: at each bound, below and above it. */
public final class EdgeWaterTest {
    private static final int NONE = Due.NONE;
    private static final int[] WRONG = {Integer.MIN_VALUE, -100, -2, -1, 100, 1000, Integer.MAX_VALUE};
    private static final String SEA = "size 3 2;";
    private static final String DRY = "size 3 2;row 0 9 9 9;row 1 9 9 9;";
    /** All nine heights and the tenth, each once in the row above and the one below. */
    private static final String STAIRS = "size 5 2;row 0 0 1 2 3 4;row 1 5 6 7 8 9;";

    public static void main(String[] args) {
        straitOfOne();
        straitOfNeighbours();
        straitOverOthers();
        straitBeside();
        straitNumbers();
        soilByLevels();
        poolsByLevels();
        largestPools();
        isles();
        shores();
        stranded();
        dry();
        dryByALevel();
        volumes();
        droughtLevels();
        droughtNumbers();
        watchersSee();
        watchersSeeOverNoWater();
        watchersSeeNoFurtherThanTheLand();
        watchersOfAll();
        watchersTogether();
        fewerWatchers();
        firstRowOfWatchers();
        watchNumbers();
        mooredBesideSoil();
        mooredNotBesideAnother();
        mooredOfTheFirst14();
        mooredLeastSet();
        mooredOfNone();
        mooredNumbers();
        digLargest();
        digOfSeveral();
        digOfNoSoil();
        damMostPools();
        damOfSeveral();
        damOfNoWater();
        digAndDamNumbers();
        Due.finish("EdgeWaterTest");
    }

    private static void strait(String land, int a, int b, int want) {
        Due.due("strait of " + a + ", " + b + " in " + land, Due.with(land, null).strait(0, a, b), want);
    }

    private static void drought(String land, int level, int what, int want) {
        Due.due("drought by " + level + ", " + what + " in " + land, Due.with(land, null).drought(0, level, what), want);
    }

    private static void watch(String land, int n, int sees, int... cells) {
        FerryLand x = Due.with(land, null);
        Due.due("watch of " + n + " in " + land, x.watch(0, n, 0), sees);
        for (int i = 0; i < 3; i++) {
            Due.due("watcher " + i + " of " + n + " in " + land, x.watch(0, n, 1 + i), i < cells.length ? cells[i] : NONE);
        }
    }

    private static void moored(String land, int many, int set) {
        FerryLand x = Due.with(land, null);
        Due.due("moored in " + land, x.moored(0, false), many);
        Due.due("moored set in " + land, x.moored(0, true), set);
    }

    private static void dig(String land, int cell, int size) {
        FerryLand x = Due.with(land, null);
        Due.due("dig in " + land, x.dig(0, false), cell);
        Due.due("dug size in " + land, x.dig(0, true), size);
    }

    private static void dam(String land, int cell, int pools) {
        FerryLand x = Due.with(land, null);
        Due.due("dam in " + land, x.dam(0, false), cell);
        Due.due("dammed pools in " + land, x.dam(0, true), pools);
    }

    // Promise 14

    private static void straitOfOne() {
        FerryLand x = Due.with(STAIRS, null);
        for (int cell = 0; cell < 10; cell++) {
            Due.due("strait of " + cell + " alone", x.strait(0, cell, cell), cell);
        }
    }

    private static void straitOfNeighbours() {
        for (int a = 0; a < 10; a++) {
            for (int b = 0; b < 10; b++) {
                FerryLand x = Due.with("size 2 2;row 0 " + a + " " + b + ";row 1 9 9;level 9;", null);
                Due.due("strait of heights " + a + ", " + b, x.strait(0, 0, 1), Math.max(a, b));
                Due.due("strait back of heights " + a + ", " + b, x.strait(0, 1, 0), Math.max(a, b));
            }
        }
    }

    private static void straitOverOthers() {
        for (int height = 0; height < 10; height++) {
            String land = "size 3 2;row 0 2 " + height + " 4;row 1 8 8 8;";
            strait(land, 0, 2, Math.min(8, Math.max(4, height)));
            strait(land, 2, 0, Math.min(8, Math.max(4, height)));
        }
        strait("size 8 8;row 3 9 9 9 9 9 9 9 9;", 0, 63, 9);
        strait("size 8 8;row 3 9 9 9 9 9 9 9 8;", 0, 63, 8);
        strait("size 8 8;", 0, 63, 0);
        // The LEVEL as told is not asked for.
        strait("size 2 2;level 5;", 0, 3, 0);
        strait("size 2 2;row 0 7 7;row 1 7 7;level 0;", 0, 3, 7);
    }

    /** Neither corner to corner nor from a row's end to the next one's begin. */
    private static void straitBeside() {
        strait("size 2 2;row 0 0 9;row 1 9 0;", 0, 3, 9);
        strait("size 2 2;row 0 9 0;row 1 0 9;", 1, 2, 9);
        strait("size 3 2;row 0 9 9 0;row 1 0 9 9;", 2, 3, 9);
        strait("size 3 2;row 0 0 9 9;row 1 9 9 0;", 0, 5, 9);
        strait("size 2 8;row 1 9 9;row 2 9 9;row 3 9 9;row 4 9 9;row 5 9 9;row 6 9 9;", 0, 15, 9);
    }

    private static void straitNumbers() {
        FerryLand x = Due.with("size 3 2;row 0 1 2 3;row 1 4 5 6;", null);
        for (int wrong : WRONG) {
            Due.due("strait of land " + wrong, x.strait(wrong, 0, 1), NONE);
            Due.due("strait of a " + wrong, x.strait(0, wrong, 1), NONE);
            Due.due("strait of b " + wrong, x.strait(0, 1, wrong), NONE);
            Due.due("strait of both " + wrong, x.strait(0, wrong, wrong), NONE);
            Due.due("behind a refused one", x.strait(0, 0, 1), 2);
        }
        Due.due("land 1", x.strait(1, 0, 1), NONE);
        Due.due("a 6", x.strait(0, 6, 1), NONE);
        Due.due("b 6", x.strait(0, 1, 6), NONE);
        Due.due("both 6", x.strait(0, 6, 6), NONE);
        Due.due("both 5", x.strait(0, 5, 5), 6);
        Due.due("no land", new FerryLand().strait(0, 0, 0), NONE);
    }

    // Promise 15

    private static void soilByLevels() {
        for (int level = 0; level < 10; level++) {
            drought(STAIRS, level, 0, 9 - level);
            drought(STAIRS + "level 9;", level, 0, 9 - level);
            drought(SEA, level, 0, 0);
            drought(DRY, level, 0, level < 9 ? 6 : 0);
            drought("size 8 8;", level, 0, 0);
        }
        drought("size 2 2;row 0 9 9;row 1 9 9;", 8, 0, 4);
    }

    private static void poolsByLevels() {
        // 0 to 4 are one row, 5 to 9 lie below them.
        for (int level = 0; level < 10; level++) {
            drought(STAIRS, level, 1, 1);
            drought(DRY, level, 1, level < 9 ? 0 : 1);
            drought(SEA, level, 1, 1);
        }
        // Corner to corner is not beside.
        drought("size 2 2;row 0 0 9;row 1 9 0;", 0, 1, 2);
        drought("size 3 3;row 0 0 9 0;row 1 9 0 9;row 2 0 9 0;", 0, 1, 5);
        drought("size 3 2;row 0 9 9 0;row 1 0 9 9;", 0, 1, 2);
        drought("size 3 2;row 0 0 9 0;row 1 0 0 0;", 0, 1, 1);
        StringBuilder checks = new StringBuilder("size 8 8;");
        for (int row = 0; row < 8; row++) {
            checks.append("row ").append(row).append(row % 2 == 0 ? " 0 9 0 9 0 9 0 9;" : " 9 0 9 0 9 0 9 0;");
        }
        drought(checks.toString(), 0, 1, 32);
        drought(checks.toString(), 0, 3, 32);
        drought(checks.toString(), 0, 4, 112);
        drought(checks.toString(), 9, 1, 1);
    }

    private static void largestPools() {
        for (int level = 0; level < 10; level++) {
            drought(STAIRS, level, 2, level + 1);
            drought(DRY, level, 2, level < 9 ? 0 : 6);
        }
        drought("size 4 2;row 0 0 9 0 0;row 1 9 9 9 0;", 0, 2, 3);
        drought("size 4 2;row 0 0 0 9 0;row 1 0 9 9 9;", 0, 2, 3);
        drought("size 4 2;row 0 0 9 0 9;row 1 9 0 9 0;", 0, 2, 1);
        drought("size 8 8;", 0, 2, 64);
    }

    private static void isles() {
        for (int level = 0; level < 10; level++) {
            drought(STAIRS, level, 3, level < 9 ? 1 : 0);
            drought(SEA, level, 3, 0);
            drought(DRY, level, 3, level < 9 ? 1 : 0);
        }
        drought("size 2 2;row 0 0 9;row 1 9 0;", 0, 3, 2);
        drought("size 3 2;row 0 9 0 9;", 0, 3, 2);
        drought("size 3 2;row 0 0 0 9;row 1 9 0 0;", 0, 3, 2);
        drought("size 3 2;row 0 9 0 9;row 1 9 9 9;", 0, 3, 1);
    }

    private static void shores() {
        drought(SEA, 0, 4, 0);
        drought(DRY, 8, 4, 0);
        drought(DRY, 9, 4, 0);
        drought("size 2 2;row 0 9 0;row 1 0 0;", 0, 4, 2);
        drought("size 2 2;row 0 9 0;row 1 0 9;", 0, 4, 4);
        drought("size 3 3;row 1 0 9 0;", 0, 4, 4);
        drought("size 3 3;row 1 0 9 0;", 9, 4, 0);
        drought("size 3 3;row 0 9 9 9;row 1 9 0 9;row 2 9 9 9;", 0, 4, 4);
        // A row's end and the next one's begin are no couple.
        drought("size 3 2;row 0 0 0 9;", 0, 4, 2);
        drought("size 3 2;row 1 9 0 0;", 0, 4, 2);
    }

    /** Bits of PEOPLE whose CELL is SOIL: by HEIGHTS of 4, at LEVELS of 3, 4, 5. */
    private static void stranded() {
        String five = "size 5 2;row 0 4 4 4 4 4;row 1 4;man 0 0;child 1 0;sleeper 2 0;man 3 0;man 0 1;";
        int[] want = {31, 31, 31, 31, 0, 0, 0, 0, 0, 0};
        for (int level = 0; level < 10; level++) {
            drought(five, level, 5, want[level]);
            drought("size 5 2;row 0 4 4 4 4 4;", level, 5, 0);
        }
        String row = "size 5 2;row 0 1 2 3 4 5;man 0 0;man 1 0;man 2 0;man 3 0;man 4 0;";
        int[] bits = {0b11111, 0b11110, 0b11100, 0b11000, 0b10000, 0};
        for (int level = 0; level < 6; level++) {
            drought(row, level, 5, bits[level]);
        }
        drought("size 2 2;row 0 9 9;man 0 0;man 0 0;man 0 1;", 0, 5, 0b011);
    }

    private static void dry() {
        // One POOL by all LEVELS: the greatest.
        drought(STAIRS, 0, 6, 9);
        drought(SEA, 0, 6, 9);
        drought(DRY, 0, 6, 9);
        // Two POOLS up to 6.
        drought("size 3 2;row 0 0 7 0;row 1 7 7 7;", 0, 6, 6);
        drought("size 3 2;row 0 0 9 0;row 1 9 9 9;", 0, 6, 8);
        drought("size 3 2;row 0 0 1 0;row 1 1 1 1;", 0, 6, 0);
        // Three by LEVELS 5 and 6 alone.
        drought("size 5 2;row 0 0 7 5 7 0;row 1 7 7 7 7 7;", 0, 6, 6);
        drought("size 5 2;row 0 0 7 5 6 0;row 1 7 7 7 7 7;", 0, 6, 5);
    }

    /** Whatever the LEVEL is, but it must be one. */
    private static void dryByALevel() {
        FerryLand x = Due.with("size 3 2;row 0 0 7 0;row 1 7 7 7;", null);
        for (int level = -2; level < 13; level++) {
            Due.due("dry by " + level, x.drought(0, level, 6), level >= 0 && level < 10 ? 6 : NONE);
        }
        for (int wrong : WRONG) {
            Due.due("dry by " + wrong, x.drought(0, wrong, 6), NONE);
        }
        Due.due("behind refused ones", x.drought(0, 9, 6), 6);
    }

    private static void volumes() {
        int sum = 0;
        for (int level = 0; level < 10; level++) {
            sum += level;
            drought(STAIRS, level, 7, sum);
            drought(SEA, level, 7, 6 * level);
            drought(DRY, level, 7, 0);
        }
        drought("size 8 8;", 9, 7, 576);
        drought("size 2 2;row 0 4 4;row 1 4 4;", 3, 7, 0);
        drought("size 2 2;row 0 4 4;row 1 4 4;", 4, 7, 0);
        drought("size 2 2;row 0 4 4;row 1 4 4;", 5, 7, 4);
    }

    private static void droughtLevels() {
        FerryLand x = Due.with(STAIRS + "man 0 0;", null);
        for (int what = 0; what < 8; what++) {
            for (int level : new int[] {-3, -2, -1, 10, 11, 99, Integer.MIN_VALUE, Integer.MAX_VALUE}) {
                Due.due("by " + level + ", " + what, x.drought(0, level, what), NONE);
            }
            Due.due("by 0, " + what, x.drought(0, 0, what), new int[] {9, 1, 1, 1, 2, 0, 9, 0}[what]);
            Due.due("by 9, " + what, x.drought(0, 9, what), new int[] {0, 1, 10, 0, 0, 0, 9, 45}[what]);
        }
    }

    private static void droughtNumbers() {
        FerryLand x = Due.with(STAIRS, null);
        for (int level : new int[] {-1, 0, 9, 10}) {
            for (int what : new int[] {-2, -1, 8, 9, 10, Integer.MIN_VALUE, Integer.MAX_VALUE}) {
                Due.due("by " + level + ", what " + what, x.drought(0, level, what), NONE);
            }
        }
        for (int what = 0; what < 8; what++) {
            for (int wrong : WRONG) {
                Due.due("drought of land " + wrong, x.drought(wrong, 0, what), NONE);
            }
            Due.due("land 1", x.drought(1, 0, what), NONE);
            Due.due("no land", new FerryLand().drought(0, 0, what), NONE);
        }
        Due.due("behind refused ones", x.drought(0, 3, 0), 6);
    }

    // Promise 16

    private static void watchersSee() {
        // Soil in one direction each of the four, from the next one on.
        watch("size 3 3;row 0 9 9 9;row 1 9 0 9;row 2 9 9 9;", 1, 4, 4);
        watch("size 3 3;row 0 0 9 0;row 1 0 0 0;row 2 0 0 0;", 1, 1, 0);
        watch("size 2 2;row 0 0 9;row 1 0 0;", 1, 1, 0);
        watch("size 2 2;row 0 9 0;row 1 0 0;", 1, 1, 1);
        watch("size 2 2;row 0 0 0;row 1 9 0;", 1, 1, 0);
        watch("size 2 2;row 0 0 0;row 1 0 9;", 1, 1, 1);
        // One behind the other.
        watch("size 8 8;row 0 0 9 9 9 9 9 9 9;", 1, 7, 0);
        watch("size 2 8;row 0 0;row 1 9;row 2 9;row 3 9;row 4 9;row 5 9;row 6 9;row 7 9;", 1, 7, 0);
        // By the LEVEL as told.
        watch("size 3 2;row 0 5 6 7;row 1 9 9 9;level 5;", 1, 3, 0);
        watch("size 3 2;row 0 5 6 7;row 1 9 9 9;level 6;", 1, 2, 1);
    }

    private static void watchersSeeOverNoWater() {
        watch("size 6 2;row 0 0 9 9 0 9 9;", 1, 4, 3);
        // From 0 only up to 3.
        watch("size 6 2;row 0 0 9 9 0 9 9;row 1 0 0 0 9 0 0;", 1, 5, 3);
        watch("size 4 2;row 0 0 0 9 9;row 1 9 9 9 9;", 1, 3, 1);
        watch("size 2 8;row 0 0 9;row 1 9 9;row 2 0 9;row 3 9 9;row 4 9 9;row 5 9 9;row 6 9 9;row 7 9 9;", 1, 7, 4);
    }

    private static void watchersSeeNoFurtherThanTheLand() {
        // 2 ends its row: 3 behind it by number is not seen.
        watch("size 3 2;row 0 0 0 0;row 1 9 0 0;", 1, 1, 0);
        watch("size 3 3;row 0 0 0 0;row 1 9 9 0;row 2 0 0 0;", 1, 2, 5);
        // 7 and 56 are in line with 63, but behind WATER.
        watch("size 8 8;row 7 0 0 0 0 0 0 0 9;", 1, 1, 55);
        watch("size 8 8;row 0 9;", 1, 1, 1);
    }

    private static void watchersOfAll() {
        watch("size 2 2;row 0 0 9;row 1 9 9;", 1, 2, 0);
        StringBuilder land = new StringBuilder("size 8 8;");
        for (int row = 0; row < 8; row++) {
            land.append("row ").append(row).append(row == 4 ? " 9 9 9 9 0 9 9 9;" : " 9 9 9 9 9 9 9 9;");
        }
        watch(land.toString(), 1, 14, 36);
        watch(land.toString(), 2, 14, 36);
        watch(land.toString(), 3, 14, 36);
    }

    /** What two see counts once. */
    private static void watchersTogether() {
        watch("size 3 2;row 0 0 9 0;row 1 9 9 9;", 1, 2, 0);
        watch("size 3 2;row 0 0 9 0;row 1 9 9 9;", 2, 3, 0, 2);
        watch("size 3 2;row 0 0 9 0;row 1 9 9 9;", 3, 3, 0, 2);
        watch("size 3 3;row 0 0 9 0;row 1 9 9 9;row 2 0 9 0;", 1, 2, 0);
        watch("size 3 3;row 0 0 9 0;row 1 9 9 9;row 2 0 9 0;", 2, 4, 0, 8);
        watch("size 3 3;row 0 0 9 0;row 1 9 9 9;row 2 0 9 0;", 3, 4, 0, 2, 6);
        // The best one is not among the first two that see most.
        watch("size 5 2;row 0 9 0 9 0 9;row 1 0 9 9 9 0;", 1, 4, 5);
        watch("size 5 2;row 0 9 0 9 0 9;row 1 0 9 9 9 0;", 2, 6, 1, 9);
    }

    private static void fewerWatchers() {
        for (int n = 1; n < 4; n++) {
            watch(DRY, n, 0);
            watch("size 3 2;row 0 9 9 9;row 1 9 0 9;", n, 3, 4);
        }
        String two = "size 3 2;row 0 0 9 0;row 1 9 9 9;";
        watch(two, 2, 3, 0, 2);
        watch(two, 3, 3, 0, 2);
        String three = "size 3 2;row 0 0 9 0;row 1 9 0 9;";
        watch(three, 3, 3, 0, 2, 4);
    }

    private static void firstRowOfWatchers() {
        watch(SEA, 1, 0, 0);
        watch(SEA, 2, 0, 0, 1);
        watch(SEA, 3, 0, 0, 1, 2);
        watch("size 8 8;", 3, 0, 0, 1, 2);
        watch("size 8 8;row 7 0 0 0 0 0 0 0 9;", 2, 1, 0, 55);
        watch("size 8 8;row 7 0 0 0 0 0 0 0 9;", 3, 1, 0, 1, 55);
        watch("size 2 2;row 0 0 0;row 1 0 9;", 2, 1, 0, 1);
        watch("size 2 2;row 0 0 0;row 1 0 9;", 3, 1, 0, 1, 2);
    }

    private static void watchNumbers() {
        FerryLand x = Due.with("size 4 2;row 0 0 9 9 0;", null);
        for (int what = 0; what < 4; what++) {
            for (int wrong : WRONG) {
                Due.due("watch of land " + wrong, x.watch(wrong, 3, what), NONE);
                Due.due("watch of n " + wrong, x.watch(0, wrong, what), NONE);
                Due.due("watch of what " + wrong, x.watch(0, 3, wrong), NONE);
                Due.due("behind a refused one", x.watch(0, 1, 0), 2);
            }
            Due.due("n 0", x.watch(0, 0, what), NONE);
            Due.due("n 4", x.watch(0, 4, what), NONE);
            Due.due("land 1", x.watch(1, 1, what), NONE);
            Due.due("no land", new FerryLand().watch(0, 1, what), NONE);
        }
        for (int n = 1; n < 4; n++) {
            Due.due("what 4 of " + n, x.watch(0, n, 4), NONE);
            Due.due("what -1 of " + n, x.watch(0, n, -1), NONE);
            Due.due("the last one of " + n, x.watch(0, n, n) == NONE, false);
            Due.due("one behind the last of " + n, x.watch(0, n, n + 1), NONE);
        }
    }

    // Promise 17

    private static void mooredBesideSoil() {
        moored("size 3 3;row 1 0 9 0;", 4, 0b1111);
        moored("size 2 2;row 0 9;", 2, 0b11);
        moored("size 2 2;row 0 9 9;", 1, 0b01);
        moored("size 2 2;row 0 9 9;row 1 9;", 1, 0b1);
        // Corner to corner is not beside SOIL, nor is a row's end beside the next one.
        moored("size 3 2;row 0 0 0 9;", 2, 0b11);
        moored("size 3 2;row 1 9 0 0;", 2, 0b11);
        // The last CELL of all, and the first one.
        StringBuilder wide = new StringBuilder("size 8 8;");
        for (int row = 0; row < 8; row++) {
            wide.append("row ").append(row).append(row == 0 ? " 0 9 9 9 9 9 9 9;" : row == 7 ? " 9 9 9 9 9 9 9 0;" : " 9 9 9 9 9 9 9 9;");
        }
        moored(wide.toString(), 2, 0b11);
        moored(wide + "row 0 9 9 9 9 9 9 9 9;", 1, 0b1);
        moored(wide + "row 7 9 9 9 9 9 9 0 0;", 2, 0b011);
        // By the LEVEL as told.
        moored("size 2 2;row 0 5 6;row 1 5 5;level 5;", 2, 0b11);
        moored("size 2 2;row 0 5 6;row 1 5 5;level 6;", 0, 0);
    }

    private static void mooredNotBesideAnother() {
        // Rows of water along the soil: each second one.
        int[] many = {0, 0, 1, 2, 2, 3, 3, 4, 4};
        for (int wide = 2; wide < 9; wide++) {
            moored("size " + wide + " 2;row 1" + " 9".repeat(wide) + ";", many[wide], 0b01010101 & (1 << wide) - 1);
        }
        moored("size 2 8;" + column(), 4, 0b01010101);
        // Places that follow one another, though their CELLS do not.
        moored("size 3 2;row 0 0 9 0;row 1 9 9 9;", 2, 0b11);
        moored("size 3 2;row 0 9 9 0;row 1 0 9 9;", 2, 0b11);
    }

    private static String column() {
        StringBuilder land = new StringBuilder();
        for (int row = 0; row < 8; row++) {
            land.append("row ").append(row).append(" 0 9;");
        }
        return land.toString();
    }

    /** Single waters, none beside another one: 13, 14, 15 of them. */
    private static void mooredOfTheFirst14() {
        for (int many = 1; many < 17; many++) {
            StringBuilder land = new StringBuilder("size 8 8;");
            int left = many;
            for (int row = 0; row < 8; row++) {
                land.append("row ").append(row);
                for (int column = 0; column < 8; column++) {
                    boolean water = (row + column) % 2 == 0 && left > 0;
                    left -= water ? 1 : 0;
                    land.append(water ? " 0" : " 9");
                }
                land.append(";");
            }
            int taken = Math.min(many, 14);
            moored(land.toString(), taken, (1 << taken) - 1);
        }
        // Eight above the bar, eight below it: of these six are taken in.
        moored("size 8 3;row 1 9 9 9 9 9 9 9 9;", 7, 0b01010101010101);
        // What is not beside SOIL takes no place.
        moored("size 8 4;row 3 9 9 9 9 9 9 9 9;", 4, 0b01010101);
    }

    private static void mooredLeastSet() {
        // Of four in a ring two that are no neighbours: 1, 2 as a number less than 0, 3.
        moored("size 4 4;row 0 9 9 9 9;row 1 9 0 0 9;row 2 9 0 0 9;row 3 9 9 9 9;", 2, 0b0110);
        // More are better than less, whatever the number is: 0, 2 of a row of three.
        moored("size 3 2;row 1 9 9 9;", 2, 0b101);
        // Of a row of four: 0, 2 before 0, 3 and 1, 3.
        moored("size 4 2;row 1 9 9 9 9;", 2, 0b0101);
        // A cross of five: the midst is not beside SOIL, it takes no place.
        moored("size 3 3;row 0 9 0 9;row 2 9 0 9;", 4, 0b1111);
    }

    private static void mooredOfNone() {
        moored(SEA, 0, 0);
        moored(DRY, 0, 0);
        moored("size 8 8;", 0, 0);
        moored(DRY + "level 9;", 0, 0);
    }

    private static void mooredNumbers() {
        FerryLand x = Due.with("size 4 2;row 1 9 9 9 9;", null);
        for (boolean set : new boolean[] {false, true}) {
            for (int wrong : WRONG) {
                Due.due("moored of land " + wrong, x.moored(wrong, set), NONE);
                Due.due("behind a refused one", x.moored(0, set), set ? 5 : 2);
            }
            Due.due("land 1", x.moored(1, set), NONE);
            Due.due("no land", new FerryLand().moored(0, set), NONE);
        }
    }

    // Promise 27

    private static void digLargest() {
        dig("size 5 2;row 0 0 9 0 9 0;row 1 9 9 9 9 9;", 1, 3);
        dig("size 5 2;row 0 0 9 0 9 0;row 1 9 9 9 0 0;", 3, 5);
        dig("size 5 2;row 0 9 9 9 9 0;row 1 9 9 9 9 0;", 3, 3);
        // By the LEVEL as told.
        dig("size 3 2;row 0 5 6 5;row 1 9 9 9;level 5;", 1, 3);
        dig("size 3 2;row 0 5 6 5;row 1 9 9 9;level 6;", 3, 4);
    }

    private static void digOfSeveral() {
        dig(DRY, 0, 1);
        dig("size 2 2;row 0 0 9;row 1 9 9;", 1, 2);
        dig("size 2 2;row 0 9 0;row 1 9 9;", 0, 2);
        dig("size 2 2;row 0 9 9;row 1 9 0;", 1, 2);
        // Where it is dug beside a small one the largest stays as it is: any one that makes it larger is better.
        dig("size 5 2;row 0 0 9 9 0 0;row 1 9 9 9 0 0;", 2, 5);
        // The last cell of all.
        dig("size 2 2;row 0 0 0;row 1 0 9;", 3, 4);
        dig("size 8 8;row 7 0 0 0 0 0 0 0 9;", 63, 64);
    }

    private static void digOfNoSoil() {
        dig(SEA, NONE, NONE);
        dig("size 8 8;", NONE, NONE);
        dig(DRY + "level 9;", NONE, NONE);
        dig(DRY + "level 8;", 0, 1);
    }

    // Promise 28

    private static void damMostPools() {
        dam("size 5 2;row 1 9 9 9 9 9;", 1, 2);
        dam("size 3 3;row 0 9 0 9;row 2 9 0 9;", 4, 4);
        dam("size 5 2;row 0 0 9 0 0 0;row 1 9 9 9 9 9;", 3, 3);
        dam("size 3 3;row 0 0 9 9;row 1 0 0 9;row 2 9 0 0;", 3, 2);
        // By the LEVEL as told.
        dam("size 3 2;row 0 5 5 5;row 1 9 9 9;level 5;", 1, 2);
    }

    private static void damOfSeveral() {
        dam(SEA, 0, 1);
        dam("size 8 8;", 0, 1);
        // A single one that is dammed is a POOL less.
        dam("size 5 2;row 0 0 9 0 9 0;row 1 9 9 9 9 9;", 0, 2);
        dam("size 3 2;row 0 0 9 0;row 1 9 9 0;", 2, 2);
        dam("size 2 2;row 0 9 9;row 1 9 0;", 3, 0);
        dam("size 2 2;row 0 9 9;row 1 0 0;", 2, 1);
    }

    private static void damOfNoWater() {
        dam(DRY, NONE, NONE);
        dam("size 2 2;row 0 1 1;row 1 1 1;", NONE, NONE);
        dam("size 2 2;row 0 1 1;row 1 1 1;level 1;", 0, 1);
    }

    private static void digAndDamNumbers() {
        FerryLand x = Due.with("size 4 2;row 1 9 9 9 9;", null);
        for (boolean much : new boolean[] {false, true}) {
            for (int wrong : WRONG) {
                Due.due("dig of land " + wrong, x.dig(wrong, much), NONE);
                Due.due("dam of land " + wrong, x.dam(wrong, much), NONE);
                Due.due("behind a refused one", x.dig(0, much), much ? 5 : 4);
                Due.due("behind a refused one", x.dam(0, much), much ? 2 : 1);
            }
            Due.due("dig of land 1", x.dig(1, much), NONE);
            Due.due("dam of land 1", x.dam(1, much), NONE);
            Due.due("dig of no land", new FerryLand().dig(0, much), NONE);
            Due.due("dam of no land", new FerryLand().dam(0, much), NONE);
        }
    }
}
