/** Promises 22 to 24 with what Terms 1 and 4 say of SIGHTS, sentence by sentence: at each bound, below and above it. */
public final class EdgeSightTest {
    private static final int NONE = Due.NONE;
    private static final int[] WRONG = {Integer.MIN_VALUE, -1000, -3, -2, 100, 65536, Integer.MAX_VALUE};
    private static final String POND = "size 2 2;";
    private static final String DRY = "size 2 2;row 0 9 9;row 1 9 9;";
    /** One row of water, soil below it. */
    private static final String CANAL = "size 8 2;row 1 9 9 9 9 9 9 9 9;hour 1;";

    public static void main(String[] args) {
        sightAtFirst();
        sightBegins();
        factsAsTold();
        factNumbers();
        sightNumbers();
        walksOfMinutes();
        walksOverEdges();
        walksOfNone();
        ashoreAtMinuteNone();
        ashoreUpToHour();
        ashoreIsNoneOnWater();
        ashoreByLevels();
        hourOfAMan();
        factsAtMinuteNone();
        factsUpToN();
        factsSeenAndNot();
        factsOfOneMinute();
        tenFacts();
        whatIsNotThere();
        whatIsThereOnlyJust();
        laterFactsAreThereToo();
        endsAtCells();
        walksMinutes();
        walksNumbers();
        sureOfMinutes();
        sureMinutes();
        sureOfNoWalks();
        sureAtMinuteNone();
        askTheLeast();
        askOfSeveral();
        askOfAllCells();
        askOfNoWalks();
        sureNumbers();
        Due.finish("EdgeSightTest");
    }

    private static void walks(String land, String sight, long... want) {
        FerryLand x = Due.withSights(land, sight);
        for (int n = 0; n < want.length; n++) {
            Due.due("walks of " + n + " by " + sight + " in " + land, x.walks(0, 0, n, NONE), want[n]);
        }
    }

    private static void ends(String land, String sight, int n, long... want) {
        FerryLand x = Due.withSights(land, sight);
        for (int cell = 0; cell < want.length; cell++) {
            Due.due("ends of " + n + " at " + cell + " by " + sight + " in " + land, x.walks(0, 0, n, cell), want[cell]);
        }
    }

    private static void sure(String land, String sight, int n, int minute, int want) {
        Due.due("sure of " + minute + " in " + n + " by " + sight + " in " + land, Due.withSights(land, sight).sure(0, 0, n, minute), want);
    }

    // Promise 22

    private static void head(String sight, int column, int row, int facts) {
        FerryLand x = Due.withSights("", sight);
        Due.due("column of " + sight, x.sight(0, NONE, 0), column);
        Due.due("row of " + sight, x.sight(0, NONE, 1), row);
        Due.due("facts of " + sight, x.sight(0, NONE, 2), facts);
    }

    private static void sightAtFirst() {
        head("", 0, 0, 0);
        head("seen 0 1 1;", 0, 0, 1);
    }

    private static void sightBegins() {
        head("from 0 0;", 0, 0, 0);
        head("from 7 0;", 7, 0, 0);
        head("from 0 7;", 0, 7, 0);
        head("from 7 7;not 1 1 1;", 7, 7, 1);
        head("from 1 2;from 3 4;", 3, 4, 0);
        head("from 1 2;seen 1 1 1;from 0 0;not 2 2 2;", 0, 0, 2);
    }

    private static void factsAsTold() {
        FerryLand x = Due.withSights("", "seen 0 0 0;not 0 0 0;seen 12 7 7;not 12 7 7;not 1 2 3;seen 4 5 6;seen 4 5 6;not 11 0 7;seen 9 7 0;not 10 1 0;");
        int[][] want = {{1, 0, 0, 0}, {0, 0, 0, 0}, {1, 12, 7, 7}, {0, 12, 7, 7}, {0, 1, 2, 3}, {1, 4, 5, 6}, {1, 4, 5, 6}, {0, 11, 0, 7}, {1, 9, 7, 0}, {0, 10, 1, 0}};
        Due.due("ten", x.sight(0, NONE, 2), 10);
        for (int k = 0; k < 10; k++) {
            for (int what = 0; what < 4; what++) {
                Due.due("fact " + k + ", " + what, x.sight(0, k, what), want[k][what]);
            }
        }
    }

    private static void factNumbers() {
        for (int many : new int[] {0, 1, 9, 10}) {
            FerryLand x = Due.withSights("", "not 3 4 5;".repeat(many));
            Due.due("how many", x.sight(0, NONE, 2), many);
            for (int k : new int[] {-3, -2, 0, 1, 8, 9, 10, 11, Integer.MIN_VALUE, Integer.MAX_VALUE}) {
                for (int what = 0; what < 4; what++) {
                    Due.due("fact " + k + " of " + many, x.sight(0, k, what), k >= 0 && k < many ? new int[] {0, 3, 4, 5}[what] : -2);
                }
            }
        }
    }

    private static void sightNumbers() {
        for (int many = 0; many < 3; many++) {
            FerryLand x = Due.with("", null);
            for (int i = 0; i < many; i++) {
                Due.due("sight", Due.tell(x, 3, NONE, "from 3 4;seen 1 2 5;"), i);
            }
            for (int s : new int[] {-2, -1, 0, 1, 2, 3, Integer.MIN_VALUE, Integer.MAX_VALUE}) {
                boolean there = s >= 0 && s < many;
                Due.due("sight " + s + " of " + many, x.sight(s, NONE, 0), there ? 3 : -2);
                Due.due("sight " + s + " of " + many, x.sight(s, 0, 3), there ? 5 : -2);
            }
        }
        FerryLand x = Due.withSights("", "from 3 4;seen 1 2 5;");
        for (int what : new int[] {-2, -1, 4, 5, 10, Integer.MIN_VALUE, Integer.MAX_VALUE}) {
            Due.due("what " + what, x.sight(0, NONE, what), -2);
            Due.due("what " + what + " of a fact", x.sight(0, 0, what), -2);
            Due.due("behind a refused one", x.sight(0, NONE, 1), 4);
        }
        Due.due("what 3 of all", x.sight(0, NONE, 3), -2);
    }

    // Promise 23

    private static void walksOfMinutes() {
        walks(POND, "", 1, 3, 9, 27, 81, 243, 729, 2187, 6561, 19683, 59049, 177147, 531441);
        walks("size 3 3;", "from 1 1;", 1, 5, 5 + 4 * 4);
        walks("size 8 8;", "from 4 4;", 1, 5, 25, 125);
    }

    private static void walksOverEdges() {
        ends("size 3 2;", "from 2 0;", 1, 0, 1, 1, 0, 0, 1);
        ends("size 3 2;", "from 0 1;", 1, 1, 0, 0, 1, 1, 0);
        ends("size 2 3;", "", 1, 1, 1, 1, 0, 0, 0);
        ends("size 2 3;", "from 1 2;", 1, 0, 0, 0, 1, 1, 1);
        FerryLand x = Due.withSights("size 8 8;", "from 7 7;", "from 7 0;");
        int[] corner = {63, 62, 55};
        for (int cell = 0; cell < 64; cell++) {
            boolean ends = cell == corner[0] || cell == corner[1] || cell == corner[2];
            Due.due("from the last corner to " + cell, x.walks(0, 0, 1, cell), ends ? 1 : 0);
            Due.due("from the right corner to " + cell, x.walks(0, 1, 1, cell), cell == 7 || cell == 6 || cell == 15 ? 1 : 0);
        }
    }

    private static void walksOfNone() {
        for (String land : new String[] {POND, DRY, DRY + "hour 1;"}) {
            walks(land, "", 1);
            ends(land, "", 0, 1, 0, 0, 0);
            ends(land, "from 1 1;", 0, 0, 0, 0, 1);
        }
    }

    /** At minute 0, too, ASHORE is 1 on SOIL. */
    private static void ashoreAtMinuteNone() {
        walks(DRY + "hour 1;", "", 1, 0, 0);
        walks(DRY + "hour 2;", "", 1, 3, 0, 0);
        walks(DRY + "hour 3;", "", 1, 3, 9, 0);
        walks(CANAL, "from 0 1;", 1, 1);
        ends(CANAL, "from 0 1;", 1, 1, 0, 0);
    }

    /** ASHORE never above HOUR: at it, below it, above it. */
    private static void ashoreUpToHour() {
        long power = 1;
        for (int n = 0; n <= 12; n++) {
            for (int hour : new int[] {n, n + 1, n + 2}) {
                if (hour > 0) {
                    FerryLand x = Due.withSights(DRY + "hour " + hour + ";", "");
                    Due.due("hour " + hour + ", walks of " + n, x.walks(0, 0, n, NONE), n + 1 <= hour ? power : 0);
                }
            }
            power *= 3;
        }
        FerryLand x = Due.withSights(DRY + "hour 60;", "");
        Due.due("hour 60", x.walks(0, 0, 12, NONE), 531441);
        // Thirteen minutes ashore: of each CELL its own walks.
        for (String hour : new String[] {"hour 13;", "hour 60;"}) {
            ends(DRY + hour, "", 12, 132861, 132860, 132860, 132860);
            ends(DRY + hour, "from 1 1;", 12, 132860, 132860, 132860, 132861);
            sure(DRY + hour, "from 1 1;seen 12 1 1;", 12, 12, 3);
            sure(DRY + hour, "from 1 1;", 12, NONE, 3);
        }
        // From water: only from minute 1 on ashore.
        walks("size 2 2;row 0 0 9;row 1 9 9;hour 1;", "", 1, 3, 1 + 2 + 2);
        walks("size 2 2;row 0 0 9;row 1 9 9;hour 1;", "not 1 0 0;", 1, 2, 2);
    }

    /** REST not asked for: ASHORE is 0 at once on WATER, whatever AFLOAT is. */
    private static void ashoreIsNoneOnWater() {
        for (int afloat : new int[] {0, 1, 20}) {
            // To and fro between water and soil for ever.
            walks("size 2 2;row 0 0 9;row 1 9 9;hour 1;afloat " + afloat + ";", "seen 1 1 0;seen 2 0 0;seen 3 1 0;seen 4 0 0;seen 5 1 0;", 1, 1, 1, 1, 1, 1, 1);
        }
    }

    private static void ashoreByLevels() {
        // A HEIGHT of 5 at LEVELS of 4, 5, 6.
        for (int level = 4; level < 7; level++) {
            walks("size 2 2;row 0 5 5;row 1 5 5;hour 1;level " + level + ";", "", 1, level < 5 ? 0 : 3, level < 5 ? 0 : 9);
        }
    }

    /** A MAN's is the whole HOUR. */
    private static void hourOfAMan() {
        walks(DRY + "hour 4;child 0 0;", "", 1, 3, 9, 27, 0);
    }

    private static void factsAtMinuteNone() {
        walks(POND, "seen 0 0 0;", 1, 3);
        walks(POND, "not 0 0 0;", 0, 0, 0);
        walks(POND, "seen 0 1 0;", 0, 0, 0);
        walks(POND, "not 0 1 0;", 1, 3);
        walks(POND, "from 1 1;seen 0 1 1;", 1, 3);
        walks(POND, "from 1 1;not 0 1 1;", 0, 0);
    }

    /** FACTS of minutes up to n: of n - 1, of n, not of n + 1. */
    private static void factsUpToN() {
        for (int minute = 1; minute <= 12; minute++) {
            // What can't be: seen at 1 and at 2 at once.
            FerryLand x = Due.withSights(POND, "seen " + minute + " 1 0;seen " + minute + " 0 1;");
            for (int n = minute - 1; n <= Math.min(minute + 1, 12); n++) {
                Due.due("fact of " + minute + ", walks of " + n, x.walks(0, 0, n, NONE) == 0, n >= minute);
            }
        }
        walks(POND, "seen 2 1 1;", 1, 3, 2, 6);
        walks(POND, "not 2 0 0;", 1, 3, 6, 18);
    }

    private static void factsSeenAndNot() {
        ends(POND, "seen 1 1 0;", 1, 0, 1, 0, 0);
        ends(POND, "not 1 1 0;", 1, 1, 0, 1, 0);
        ends(POND, "seen 1 0 1;", 1, 0, 0, 1, 0);
        ends(POND, "not 1 0 1;", 1, 1, 1, 0, 0);
        walks(POND, "seen 1 1 1;", 1, 0, 0);
        walks(POND, "not 1 1 1;", 1, 3, 9);
    }

    private static void factsOfOneMinute() {
        walks(POND, "not 1 0 0;not 1 1 0;", 1, 1, 3);
        walks(POND, "not 1 0 0;not 1 1 0;not 1 0 1;", 1, 0, 0);
        walks(POND, "seen 1 1 0;seen 1 1 0;", 1, 1, 3);
        walks(POND, "seen 1 1 0;not 1 1 0;", 1, 0, 0);
        walks(POND, "not 1 1 0;seen 1 1 0;", 1, 0, 0);
        walks(POND, "seen 1 1 0;not 1 0 0;", 1, 1, 3);
    }

    private static void tenFacts() {
        String nine = "not 1 0 0;not 2 0 0;not 3 0 0;not 4 0 0;not 5 0 0;not 6 0 0;not 7 0 0;not 8 0 0;not 9 0 0;";
        FerryLand x = Due.withSights(POND, nine, nine + "not 9 1 1;");
        // Never at 0 from minute 1 on: 1 and 2 go on to themselves and 3, 3 to all three.
        long one = 1;
        long three = 0;
        for (int n = 1; n < 10; n++) {
            Due.due("nine facts, walks of " + n, x.walks(0, 0, n, NONE), 2 * one + three);
            Due.due("ten facts, walks of " + n, x.walks(0, 1, n, NONE), n < 9 ? 2 * one + three : 2 * one);
            long next = one + three;
            three += 2 * one;
            one = next;
        }
    }

    private static void gone(FerryLand x, String name) {
        for (int n : new int[] {0, 1, 12}) {
            Due.due(name + ": walks", x.walks(0, 0, n, NONE), NONE);
            Due.due(name + ": ends", x.walks(0, 0, n, 0), NONE);
            Due.due(name + ": sure", x.sure(0, 0, n, 0), NONE);
            Due.due(name + ": ask", x.sure(0, 0, n, NONE), NONE);
        }
    }

    private static void whatIsNotThere() {
        String[] sights = {"from 3 0;", "from 0 4;", "from 7 7;", "seen 0 3 0;", "seen 0 0 4;", "not 0 3 0;", "not 0 0 4;", "not 5 7 0;", "seen 5 0 7;", "not 1 1 1;not 1 3 3;"};
        for (String sight : sights) {
            FerryLand x = Due.withSights("size 3 4;", sight);
            gone(x, sight);
            Due.due("a larger land", Due.tell(x, 0, 0, "size 8 8;"), 0);
            Due.due(sight + " there", x.walks(0, 0, 0, NONE) == NONE, false);
        }
    }

    private static void whatIsThereOnlyJust() {
        String[] sights = {"from 2 0;", "from 0 3;", "from 2 3;", "not 0 2 0;", "not 0 0 3;", "not 12 2 3;", "seen 12 2 3;"};
        for (String sight : sights) {
            FerryLand x = Due.withSights("size 3 4;", sight);
            Due.due(sight, x.walks(0, 0, 0, NONE), 1);
            Due.due(sight, x.sure(0, 0, 0, 0) == NONE, false);
        }
    }

    /** Also a FACT of a minute behind n, which is not asked for. */
    private static void laterFactsAreThereToo() {
        gone(Due.withSights("size 3 4;", "not 12 3 0;"), "a later fact");
        gone(Due.withSights("size 3 4;", "not 1 1 1;".repeat(9) + "seen 12 0 4;"), "the tenth fact");
        // A beginning that was struck is none.
        walks("size 3 4;", "from 7 7;from 2 3;", 1, 3);
    }

    private static void endsAtCells() {
        ends(POND, "", 0, 1, 0, 0, 0, NONE, NONE);
        ends(POND, "", 1, 1, 1, 1, 0, NONE, NONE);
        ends(POND, "", 2, 3, 2, 2, 2, NONE, NONE);
        FerryLand x = Due.withSights(POND, "");
        Due.due("all", x.walks(0, 0, 2, -1), 9);
        for (int cell : new int[] {-3, -2, 4, 5, 63, 64, Integer.MIN_VALUE, Integer.MAX_VALUE}) {
            Due.due("ends at " + cell, x.walks(0, 0, 2, cell), NONE);
            Due.due("behind a refused one", x.walks(0, 0, 2, 3), 2);
        }
        FerryLand wide = Due.withSights("size 8 8;", "from 7 7;");
        Due.due("ends at 63", wide.walks(0, 0, 0, 63), 1);
        Due.due("ends at 64", wide.walks(0, 0, 0, 64), NONE);
        long all = 0;
        for (int cell = 0; cell < 64; cell++) {
            all += wide.walks(0, 0, 12, cell);
        }
        Due.due("all ends together", wide.walks(0, 0, 12, NONE), all);
    }

    private static void walksMinutes() {
        FerryLand x = Due.withSights(POND, "");
        long[] want = {NONE, NONE, 1, 3, 177147, 531441, NONE, NONE};
        int[] minutes = {-2, -1, 0, 1, 11, 12, 13, 14};
        for (int i = 0; i < minutes.length; i++) {
            Due.due("walks of " + minutes[i], x.walks(0, 0, minutes[i], NONE), want[i]);
            Due.due("ends of " + minutes[i], x.walks(0, 0, minutes[i], 0) == NONE, want[i] == NONE);
            Due.due("sure of " + minutes[i], x.sure(0, 0, minutes[i], 0), want[i] == NONE ? NONE : 0);
            Due.due("ask of " + minutes[i], x.sure(0, 0, minutes[i], NONE) == NONE, want[i] == NONE);
        }
        for (int n : WRONG) {
            Due.due("walks of " + n, x.walks(0, 0, n, NONE), NONE);
            Due.due("behind a refused one", x.walks(0, 0, 12, NONE), 531441);
        }
    }

    private static void walksNumbers() {
        FerryLand x = Due.withSights(POND, "");
        for (int cell : new int[] {NONE, 0}) {
            for (int wrong : WRONG) {
                Due.due("walks of land " + wrong, x.walks(wrong, 0, 1, cell), NONE);
                Due.due("walks of sight " + wrong, x.walks(0, wrong, 1, cell), NONE);
                Due.due("behind a refused one", x.walks(0, 0, 1, cell), cell == NONE ? 3 : 1);
            }
            for (int wrong : new int[] {-1, 1, 2}) {
                Due.due("walks of land " + wrong, x.walks(wrong, 0, 1, cell), NONE);
                Due.due("walks of sight " + wrong, x.walks(0, wrong, 1, cell), NONE);
            }
            Due.due("nothing told", new FerryLand().walks(0, 0, 1, cell), NONE);
        }
        Due.due("second land", Due.tell(x, 0, NONE, "size 3 3;"), 1);
        Due.due("second sight", Due.tell(x, 3, NONE, "from 1 1;"), 1);
        Due.due("the second ones", x.walks(1, 1, 1, NONE), 5);
        Due.due("land 2", x.walks(2, 1, 1, NONE), NONE);
        Due.due("sight 2", x.walks(1, 2, 1, NONE), NONE);
    }

    // Promise 24

    private static void sureOfMinutes() {
        for (int t = 0; t <= 7; t++) {
            sure(CANAL, "seen 7 7 0;", 7, t, t);
        }
        // One more minute: there is one to spare, so of 0 and 8 alone.
        for (int t = 0; t <= 8; t++) {
            sure(CANAL, "seen 8 7 0;", 8, t, t == 0 ? 0 : t == 8 ? 7 : NONE);
        }
        // By what was not: of three steps one is left.
        sure(POND, "not 1 0 0;not 1 0 1;", 1, 1, 1);
        sure(POND, "not 1 0 0;", 1, 1, NONE);
        // Both ways come to one, over two CELLS.
        sure(POND, "seen 2 1 1;", 2, 1, NONE);
        sure(POND, "seen 2 1 1;", 2, 2, 3);
        sure(POND, "seen 2 1 1;not 1 1 0;", 2, 1, 2);
    }

    private static void sureMinutes() {
        FerryLand x = Due.withSights(CANAL, "seen 7 7 0;");
        for (int n : new int[] {7, 12}) {
            for (int minute = -3; minute < 15; minute++) {
                if (minute != NONE) {
                    Due.due("minute " + minute + " of " + n, x.sure(0, 0, n, minute), minute >= 0 && minute < 8 ? minute : NONE);
                }
            }
            for (int minute : WRONG) {
                Due.due("minute " + minute + " of " + n, x.sure(0, 0, n, minute), NONE);
            }
        }
        // Up to n: minute n is one, n + 1 is none though he could be nowhere else.
        sure(DRY + "hour 1;", "", 0, 0, 0);
        sure(DRY + "hour 1;", "", 0, 1, NONE);
        sure(POND, "seen 5 0 0;seen 4 0 0;", 4, 4, 0);
        sure(POND, "seen 5 0 0;seen 4 0 0;", 4, 5, NONE);
        sure(POND, "seen 12 1 1;", 12, 12, 3);
        sure(POND, "seen 12 1 1;", 11, 12, NONE);
    }

    private static void sureOfNoWalks() {
        for (int minute = 0; minute < 4; minute++) {
            sure(CANAL, "seen 3 4 0;", 3, minute, NONE);
            sure(CANAL, "not 0 0 0;", 3, minute, NONE);
            sure(DRY + "hour 1;", "", 3, minute, NONE);
        }
        sure(CANAL, "seen 3 4 0;", 2, 0, 0);
    }

    private static void sureAtMinuteNone() {
        for (int n = 0; n <= 12; n++) {
            sure(POND, "from 1 0;", n, 0, 1);
            sure("size 8 8;", "from 7 7;", n, 0, 63);
        }
    }

    private static void askTheLeast() {
        // Ends of three in 2, 2, 2, 3 of nine: 3 of 9 leaves 6, 2 of 9 leaves 7.
        sure(POND, "from 1 1;", 2, NONE, 3);
        // More than half at one: there the greater number is the walks that are at it.
        sure("size 2 2;row 0 0 9;row 1 9 9;hour 1;", "", 2, NONE, 0);
        sure("size 2 2;row 0 0 9;row 1 9 9;hour 1;", "", 1, NONE, 0);
        // Half at each: the greater number is the half.
        sure(POND, "not 1 0 0;", 1, NONE, 1);
        sure(CANAL, "seen 1 1 0;not 2 0 0;", 2, NONE, 1);
    }

    private static void askOfSeveral() {
        sure(POND, "", 0, NONE, 0);
        sure(POND, "", 1, NONE, 0);
        sure(POND, "from 1 1;", 1, NONE, 1);
        sure(POND, "from 1 1;", 0, NONE, 0);
        sure("size 8 8;", "from 7 7;", 1, NONE, 55);
    }

    /** Of all CELLS: where all walks end at one, each is as good as the others. */
    private static void askOfAllCells() {
        sure(CANAL, "seen 7 7 0;", 7, NONE, 0);
        sure("size 8 8;", "from 7 7;", 0, NONE, 0);
        sure(DRY, "from 1 0;seen 1 1 1;", 1, NONE, 0);
    }

    private static void askOfNoWalks() {
        sure(CANAL, "seen 3 4 0;", 3, NONE, NONE);
        sure(CANAL, "not 0 0 0;", 0, NONE, NONE);
        sure(DRY + "hour 1;", "", 1, NONE, NONE);
        sure(DRY + "hour 1;", "", 0, NONE, 0);
    }

    private static void sureNumbers() {
        FerryLand x = Due.withSights(POND, "");
        for (int minute : new int[] {NONE, 0}) {
            for (int wrong : WRONG) {
                Due.due("sure of land " + wrong, x.sure(wrong, 0, 1, minute), NONE);
                Due.due("sure of sight " + wrong, x.sure(0, wrong, 1, minute), NONE);
                Due.due("sure of n " + wrong, x.sure(0, 0, wrong, minute), NONE);
                Due.due("behind a refused one", x.sure(0, 0, 1, minute), 0);
            }
            for (int wrong : new int[] {-1, 1, 2}) {
                Due.due("sure of land " + wrong, x.sure(wrong, 0, 1, minute), NONE);
                Due.due("sure of sight " + wrong, x.sure(0, wrong, 1, minute), NONE);
            }
            Due.due("nothing told", new FerryLand().sure(0, 0, 1, minute), NONE);
        }
    }
}
