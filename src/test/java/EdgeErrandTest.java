/** Promises 11, 12, 13, 26 and 29, sentence by sentence: at each bound, below and above it. */
public final class EdgeErrandTest {
    private static final int NONE = Due.NONE;
    private static final int[] WRONG = {Integer.MIN_VALUE, -100, -2, -1, 100, 1000, Integer.MAX_VALUE};
    /** Water at both ends of the row above, soil between and below: 0 is water, 1 to 6 soil, 7 water. */
    private static final String NECK = "size 8 2;row 0 0 9 9 9 9 9 9 0;row 1 9 9 9 9 9 9 9 9;";
    /** Water at 0 alone: BANKS of 1 to 7 along the row above, of 1 to 8 below. */
    private static final String COAST = "size 8 2;row 0 0 9 9 9 9 9 9 9;row 1 9 9 9 9 9 9 9 9;";
    private static final String DRY = "size 3 2;row 0 9 9 9;row 1 9 9 9;work 1 1 5;";
    private static final String SEA = "size 3 2;work 1 1 5;";

    public static void main(String[] args) {
        errandToWhereHeIs();
        errandByOneStep();
        errandNeverFined();
        errandBeginsAtNone();
        errandByWaiting();
        errandByResting();
        errandOverEdges();
        errandByNone();
        errandNumbers();
        freeInMinutes();
        freeAtTheBounds();
        freeWhereHeIs();
        freeNumbers();
        banks();
        bankOverEdges();
        minutesOfWork();
        minutesOfAChild();
        howManyItTakes();
        noWork();
        workThatCantBeDone();
        rows();
        rowOfSeveral();
        rowOfNone();
        rowOfAnyNumber();
        relayOnNoSoil();
        relayWithoutWater();
        relayNumbers();
        portageToWhereOneIs();
        portageEndsOnSoil();
        portageFewestOnSoilFirst();
        portageOverEdges();
        portageNumbers();
        inlandGreatestBank();
        inlandOfNone();
        inlandNumbers();
        Due.finish("EdgeErrandTest");
    }

    private static void errand(String land, int kind, int from, int to, int want) {
        Due.due("errand " + kind + " from " + from + " to " + to + " in " + land, Due.with(land, null).errand(0, kind, from, to), want);
    }

    private static void free(String land, int kind, int from, int n, int want) {
        Due.due("free " + kind + " from " + from + " in " + n + " in " + land, Due.with(land, null).free(0, kind, from, n), want);
    }

    private static void relay(String land, int cell, int kind, int what, int want) {
        Due.due("relay " + cell + " by " + kind + ", " + what + " in " + land, Due.with(land, null).relay(0, cell, kind, what), want);
    }

    private static void portage(String land, int from, int to, int onSoil, int all) {
        FerryLand x = Due.with(land, null);
        Due.due("portage from " + from + " to " + to + " in " + land, x.portage(0, from, to, false), onSoil);
        Due.due("steps from " + from + " to " + to + " in " + land, x.portage(0, from, to, true), all);
    }

    // Promise 11

    private static void errandToWhereHeIs() {
        for (int kind = 0; kind < 3; kind++) {
            for (int cell : new int[] {0, 1, 7, 15}) {
                errand(NECK + "hour 1;afloat 20;", kind, cell, cell, 0);
            }
            errand(DRY + "hour 1;", kind, 4, 4, 0);
        }
    }

    private static void errandByOneStep() {
        String land = "size 3 3;hour 1;";
        for (int kind = 0; kind < 3; kind++) {
            for (int to : new int[] {1, 3, 5, 7}) {
                errand(land, kind, 4, to, 1);
                errand(land + "row 0 0 9 0;row 1 9 9 9;row 2 0 9 0;", kind, 4, to, 1);
            }
            for (int to : new int[] {0, 2, 6, 8}) {
                errand(land, kind, 4, to, 2);
            }
        }
    }

    /** Six CELLS of SOIL between the waters: an HOUR of six, not of five. */
    private static void errandNeverFined() {
        errand(NECK + "hour 6;", 0, 0, 7, 7);
        errand(NECK + "hour 5;", 0, 0, 7, NONE);
        errand(NECK + "hour 7;", 0, 0, 7, 7);
        errand(NECK + "hour 6;", 2, 0, 7, 7);
        errand(NECK + "hour 5;", 2, 0, 7, NONE);
        errand(NECK + "hour 12;", 1, 0, 7, 7);
        errand(NECK + "hour 11;", 1, 0, 7, NONE);
        errand(NECK + "hour 13;", 1, 0, 7, 7);
        // To the last SOIL of all: each step to it is one ashore.
        errand(COAST + "hour 7;", 0, 0, 7, 7);
        errand(COAST + "hour 6;", 0, 0, 7, NONE);
        errand(COAST + "hour 1;", 1, 0, 1, 1);
        errand(COAST + "hour 1;", 1, 0, 2, NONE);
        errand(COAST + "hour 3;", 1, 0, 2, NONE);
        errand(COAST + "hour 4;", 1, 0, 2, 2);
        // The greatest LIMITS hold all ways of a LAND.
        errand(DRY + "hour 60;", 1, 0, 5, 3);
    }

    /** Begun on SOIL with ASHORE 0: the CELL where he is counts none. */
    private static void errandBeginsAtNone() {
        errand(COAST + "hour 6;", 0, 1, 7, 6);
        errand(COAST + "hour 5;", 0, 1, 7, NONE);
        errand(NECK + "hour 5;", 0, 1, 7, 6);
        errand(NECK + "hour 4;", 0, 1, 7, NONE);
        errand(DRY + "hour 1;", 0, 0, 1, 1);
        errand(DRY + "hour 1;", 0, 0, 2, NONE);
    }

    /** A step to none: only so he can rest where there is one CELL of WATER. */
    private static void errandByWaiting() {
        String land = "size 5 2;row 0 9 9 0 9 9;row 1 9 9 9 9 9;hour 2;";
        // One ashore on the way to 2; there the REST, then two more ashore.
        int[] want = {4, 4, 5, 6};
        for (int afloat = 0; afloat < 4; afloat++) {
            errand(land + "hour 2;afloat " + afloat + ";", 0, 0, 4, want[afloat]);
        }
        errand(land + "hour 2;afloat 20;", 0, 0, 4, 23);
        errand(land + "hour 3;afloat 20;", 0, 0, 4, 4);
        errand(land + "hour 4;afloat 2;", 1, 0, 4, 5);
        errand(land + "hour 4;afloat 20;", 1, 0, 4, 23);
        // Waiting ashore is no rest.
        errand(COAST + "hour 6;afloat 0;", 0, 0, 7, NONE);
    }

    /** REST of less than AFLOAT is none, and REST on SOIL is lost. */
    private static void errandByResting() {
        // Two single waters: a minute in each of them.
        String land = "size 7 2;row 0 9 9 0 9 0 9 9;row 1 9 9 9 9 9 9 9;hour 2;";
        errand(land + "afloat 1;", 0, 0, 6, 6);
        errand(land + "afloat 2;", 0, 0, 6, 7);
        errand(land + "afloat 3;", 0, 0, 6, 8);
        // Two waters side by side: two minutes on the way.
        String wide = "size 6 2;row 0 9 9 0 0 9 9;row 1 9 9 9 9 9 9;hour 2;";
        errand(wide + "afloat 0;", 0, 0, 5, 5);
        errand(wide + "afloat 1;", 0, 0, 5, 5);
        errand(wide + "afloat 2;", 0, 0, 5, 5);
        errand(wide + "afloat 3;", 0, 0, 5, 6);
        errand(wide + "afloat 4;", 0, 0, 5, 7);
    }

    private static void errandOverEdges() {
        errand("size 8 8;", 0, 0, 63, 14);
        errand("size 8 8;", 0, 63, 0, 14);
        errand("size 8 8;", 0, 7, 56, 14);
        errand("size 8 8;", 0, 7, 8, 8);
        errand("size 8 8;", 0, 8, 7, 8);
        errand("size 2 8;", 0, 1, 2, 2);
        errand("size 3 2;row 0 9 9 0;row 1 0 9 9;hour 1;", 0, 2, 3, NONE);
        errand("size 3 2;row 0 9 9 0;row 1 0 9 9;hour 2;", 0, 2, 3, 3);
    }

    private static void errandByNone() {
        for (int kind = 0; kind < 3; kind++) {
            errand(NECK + "hour 1;afloat 0;", kind, 0, 7, NONE);
            errand(NECK + "hour 1;", kind, 1, 7, NONE);
        }
        errand(COAST + "hour 60;", 1, 0, 15, 8);
    }

    private static void errandNumbers() {
        FerryLand x = Due.with("size 3 2;", null);
        for (int wrong : WRONG) {
            Due.due("errand of land " + wrong, x.errand(wrong, 0, 0, 5), NONE);
            Due.due("errand of kind " + wrong, x.errand(0, wrong, 0, 5), NONE);
            Due.due("errand from " + wrong, x.errand(0, 0, wrong, 5), NONE);
            Due.due("errand to " + wrong, x.errand(0, 0, 0, wrong), NONE);
            Due.due("errand from and to " + wrong, x.errand(0, 0, wrong, wrong), NONE);
            Due.due("behind a refused one", x.errand(0, 2, 0, 5), 3);
        }
        Due.due("land 1", x.errand(1, 0, 0, 5), NONE);
        Due.due("kind 3", x.errand(0, 3, 0, 5), NONE);
        Due.due("kind 3, where he is", x.errand(0, 3, 5, 5), NONE);
        Due.due("from 6", x.errand(0, 0, 6, 5), NONE);
        Due.due("to 6", x.errand(0, 0, 0, 6), NONE);
        Due.due("6 to 6", x.errand(0, 0, 6, 6), NONE);
        Due.due("second land", Due.tell(x, 0, NONE, "size 4 2;"), 1);
        Due.due("there is 6", x.errand(1, 0, 0, 6), 3);
        Due.due("land 2", x.errand(2, 0, 0, 5), NONE);
        Due.due("no land", new FerryLand().errand(0, 0, 0, 0), NONE);
        FerryLand wide = Due.with("size 8 8;", null);
        Due.due("63", wide.errand(0, 0, 63, 63), 0);
        Due.due("64", wide.errand(0, 0, 64, 64), NONE);
    }

    // Promise 12

    private static void freeInMinutes() {
        int[] sea = {1, 3, 5, 6, 6, 6};
        int[] neck = {1, 3, 5, 7, 9, 11};
        for (int n = 0; n < 6; n++) {
            free("size 3 2;", 0, 0, n, sea[n]);
            free("size 3 2;", 1, 5, n, sea[n]);
            free(NECK, 0, 0, n, neck[n]);
        }
        // Of NECK from 0: minutes 6, 7, 8, and all of it.
        free(NECK, 0, 0, 6, 13);
        free(NECK, 0, 0, 7, 15);
        free(NECK, 0, 0, 8, 16);
        free(NECK + "hour 6;", 0, 0, 6, 13);
        free(NECK + "hour 5;", 0, 0, 6, 11);
        free(NECK + "hour 5;", 0, 0, 99, 11);
        free(NECK + "hour 10;", 1, 0, 99, 11);
        free(NECK + "hour 11;", 1, 0, 99, 11);
        free(NECK + "hour 5;", 2, 0, 99, 11);
    }

    private static void freeAtTheBounds() {
        free("size 3 2;", 0, 0, -1, NONE);
        free("size 3 2;", 0, 0, 0, 1);
        free("size 3 2;", 0, 0, 1, 3);
        free("size 3 2;", 0, 0, 98, 6);
        free("size 3 2;", 0, 0, 99, 6);
        free("size 3 2;", 0, 0, 100, NONE);
        // A rest of twenty minutes thrice, then the last ones.
        String land = "size 8 2;row 0 9 0 9 0 9 0 9 9;row 1 9 9 9 9 9 9 9 9;hour 1;afloat 20;";
        FerryLand x = Due.with(land, null);
        int last = 0;
        for (int n = 0; n < 100; n++) {
            int now = x.free(0, 0, 1, n);
            Due.due("never fewer in " + n, now >= last, true);
            last = now;
        }
        Due.due("all that can be", last, x.free(0, 0, 1, 99));
    }

    private static void freeWhereHeIs() {
        for (int kind = 0; kind < 3; kind++) {
            free(DRY + "hour 1;", kind, 0, 0, 1);
            // One step, though he can't stay then.
            free(DRY + "hour 1;", kind, 0, 1, 3);
            free(DRY + "hour 1;", kind, 0, 99, 3);
        }
        free(DRY + "hour 2;", 0, 0, 2, 5);
        free(DRY + "hour 2;", 1, 0, 2, 3);
        free("size 8 8;", 0, 0, 13, 63);
        free("size 8 8;", 0, 0, 14, 64);
    }

    private static void freeNumbers() {
        FerryLand x = Due.with("size 3 2;", null);
        for (int wrong : WRONG) {
            Due.due("free of land " + wrong, x.free(wrong, 0, 0, 1), NONE);
            Due.due("free of kind " + wrong, x.free(0, wrong, 0, 1), NONE);
            Due.due("free from " + wrong, x.free(0, 0, wrong, 1), NONE);
            Due.due("free in " + wrong, x.free(0, 0, 0, wrong), NONE);
            Due.due("behind a refused one", x.free(0, 2, 0, 1), 3);
        }
        Due.due("land 1", x.free(1, 0, 0, 1), NONE);
        Due.due("kind 3", x.free(0, 3, 0, 1), NONE);
        Due.due("from 6", x.free(0, 0, 6, 1), NONE);
        Due.due("from 5", x.free(0, 0, 5, 1), 3);
        Due.due("no land", new FerryLand().free(0, 0, 0, 0), NONE);
    }

    // Promise 13

    private static void banks() {
        for (int bank = 1; bank < 8; bank++) {
            relay(COAST, bank, 0, 0, bank);
            relay(COAST, 7 + bank, 0, 0, bank);
            relay(NECK, bank < 7 ? bank : 1, 0, 0, bank < 7 ? Math.min(bank, 7 - bank) : 1);
        }
        relay(COAST, 15, 0, 0, 8);
        // The greatest: from one corner to the other one.
        StringBuilder land = new StringBuilder("size 8 8;row 0 0 9 9 9 9 9 9 9;");
        for (int row = 1; row < 8; row++) {
            land.append("row ").append(row).append(" 9 9 9 9 9 9 9 9;");
        }
        relay(land.toString(), 63, 0, 0, 14);
        relay(land + "hour 60;", 63, 0, 1, 60 - 27);
        // Whatever the KIND and the HOUR are.
        relay(COAST + "hour 1;", 7, 1, 0, 7);
        // By the LEVEL as told.
        relay("size 3 2;row 0 4 5 6;row 1 9 9 9;level 4;", 2, 0, 0, 2);
        relay("size 3 2;row 0 4 5 6;row 1 9 9 9;level 5;", 2, 0, 0, 1);
    }

    private static void bankOverEdges() {
        // 2 is at the row's end, 3 at the next one's begin.
        relay("size 3 2;row 0 9 9 0;row 1 9 9 9;", 3, 0, 0, 3);
        relay("size 3 2;row 0 9 9 9;row 1 0 9 9;", 2, 0, 0, 3);
        relay("size 8 8;row 0 0;row 1 9;", 8, 0, 0, 1);
    }

    /** BANK steps there, all on SOIL, the work, and all but one of the steps back. */
    private static void minutesOfWork() {
        for (int bank = 1; bank < 9; bank++) {
            int cell = bank < 8 ? bank : 15;
            for (int hour : new int[] {2 * bank - 2, 2 * bank - 1, 2 * bank, 2 * bank + 1, 60}) {
                if (hour > 0) {
                    relay(COAST + "hour " + hour + ";", cell, 0, 1, hour < 2 * bank ? 0 : hour - 2 * bank + 1);
                    relay(COAST + "hour " + hour + ";", cell, 2, 1, hour < 2 * bank ? 0 : hour - 2 * bank + 1);
                }
            }
        }
        relay(COAST + "hour 1;", 7, 0, 1, 0);
    }

    private static void minutesOfAChild() {
        int[][] rows = {{1, 1, 0}, {2, 1, 0}, {3, 1, 0}, {4, 1, 1}, {5, 1, 1}, {6, 1, 2}, {60, 1, 29}, {7, 2, 0}, {8, 2, 1}, {9, 2, 1}, {60, 7, 17}};
        for (int[] row : rows) {
            relay(COAST + "hour " + row[0] + ";", row[1], 1, 1, row[2]);
        }
    }

    private static void howManyItTakes() {
        // At BANK 1 an HOUR of 5 leaves 4 minutes, of 2 one.
        int[][] rows = {{5, 1, 1}, {5, 3, 1}, {5, 4, 1}, {5, 5, 2}, {5, 8, 2}, {5, 9, 3}, {5, 20, 5}, {2, 1, 1}, {2, 20, 20}, {21, 20, 1}, {20, 20, 2}};
        for (int[] row : rows) {
            relay(COAST + "hour " + row[0] + ";work 1 0 " + row[1] + ";", 1, 0, 2, row[2]);
            relay(COAST + "hour " + row[0] + ";work 1 0 " + row[1] + ";", 1, 2, 2, row[2]);
        }
        relay(COAST + "hour 10;work 1 0 5;", 1, 1, 2, 2);
        relay(COAST + "hour 11;work 1 0 5;", 1, 1, 2, 2);
        relay(COAST + "hour 12;work 1 0 5;", 1, 1, 2, 1);
    }

    private static void noWork() {
        relay(COAST + "hour 5;", 1, 0, 2, 0);
        relay(COAST + "hour 1;", 1, 0, 2, 0);
        relay(COAST + "hour 1;", 7, 1, 2, 0);
        relay(COAST + "hour 5;work 1 0 9;work 1 0 0;", 1, 0, 2, 0);
    }

    private static void workThatCantBeDone() {
        for (int bank = 1; bank < 8; bank++) {
            String work = "work " + bank + " 0 1;";
            relay(COAST + work + "hour " + (2 * bank - 1) + ";", bank, 0, 2, NONE);
            relay(COAST + work + "hour " + 2 * bank + ";", bank, 0, 2, 1);
            relay(COAST + work + "hour " + (4 * bank - 1) + ";", bank, 1, 2, NONE);
            relay(COAST + work + "hour " + 4 * bank + ";", bank, 1, 2, 1);
        }
    }

    private static void rows() {
        // The one that takes most: 9 minutes of 3 at BANK 2, not 4 minutes of 5 at BANK 1.
        relay(COAST + "hour 6;work 1 0 4;work 2 0 9;", 1, 0, 3, 2);
        relay(COAST + "hour 6;work 1 0 20;work 2 0 9;", 1, 0, 3, 1);
        // Only of those whose WORK can be done.
        relay(COAST + "hour 6;work 1 0 4;work 4 0 9;", 1, 0, 3, 1);
        relay(COAST + "hour 8;work 1 0 4;work 4 0 9;", 1, 0, 3, 4);
        // Only of SOIL.
        relay(COAST + "hour 6;work 0 0 20;work 1 0 1;", 1, 0, 3, 1);
        // Of all CELLS, the first and the last one.
        relay("size 2 2;row 0 9 0;row 1 0 9;work 0 0 1;", 1, 0, 3, 0);
        relay("size 2 2;row 0 9 0;row 1 0 9;work 1 1 1;", 1, 0, 3, 3);
        relay("size 2 2;row 0 9 0;row 1 0 9;work 0 0 1;work 1 1 1;", 1, 0, 3, 0);
        // By each KIND.
        relay(COAST + "hour 6;work 1 0 1;work 2 0 9;", 1, 1, 3, 1);
        relay(COAST + "hour 6;work 1 0 1;work 2 0 9;", 1, 2, 3, 2);
    }

    private static void rowOfSeveral() {
        relay(COAST + "hour 6;work 1 0 4;work 0 1 4;", 1, 0, 3, 1);
        relay(COAST + "hour 6;work 1 0 5;work 2 0 3;work 3 0 1;", 1, 0, 3, 1);
        relay(COAST + "hour 6;work 3 0 1;work 1 1 3;", 1, 0, 3, 3);
        relay(COAST + "hour 6;work 3 0 1;work 1 1 4;", 1, 0, 3, 9);
        relay(COAST + "hour 20;work 7 1 1;", 1, 0, 3, 15);
    }

    private static void rowOfNone() {
        for (int kind = 0; kind < 3; kind++) {
            relay(COAST, 1, kind, 3, NONE);
            relay(COAST + "work 1 0 1;hour 1;", 1, kind, 3, NONE);
            relay(COAST + "work 0 0 9;", 1, kind, 3, NONE);
            relay(DRY, 1, kind, 3, NONE);
            relay(SEA, 1, kind, 3, NONE);
        }
        relay(COAST + "work 1 0 1;hour 2;", 1, 0, 3, 1);
        relay(COAST + "work 1 0 1;hour 3;", 1, 1, 3, NONE);
        relay(COAST + "work 1 0 1;hour 4;", 1, 1, 3, 1);
    }

    /** Whatever number the CELL is: also of WATER, also none that is there. */
    private static void rowOfAnyNumber() {
        for (int cell : new int[] {0, 1, 7, 15, 16, 63, 64, -1, -2, Integer.MIN_VALUE, Integer.MAX_VALUE}) {
            relay(COAST + "work 2 0 1;", cell, 0, 3, 2);
        }
    }

    private static void relayOnNoSoil() {
        for (int what = 0; what < 3; what++) {
            for (int kind = 0; kind < 3; kind++) {
                relay(NECK, 0, kind, what, NONE);
                relay(NECK, 7, kind, what, NONE);
                relay(SEA, 4, kind, what, NONE);
                // At LEVEL it is WATER, above it SOIL.
                relay("size 2 2;row 0 0 5;level 5;", 1, kind, what, NONE);
                relay("size 2 2;row 0 0 6;level 5;", 1, kind, what, new int[] {1, kind == 1 ? 5 : 11, 0}[what]);
            }
        }
    }

    private static void relayWithoutWater() {
        for (int what = 0; what < 3; what++) {
            for (int kind = 0; kind < 3; kind++) {
                relay(DRY, 0, kind, what, NONE);
                relay(DRY, 4, kind, what, NONE);
            }
        }
    }

    private static void relayNumbers() {
        FerryLand x = Due.with(COAST + "work 2 0 1;hour 4;", null);
        int[] man = {2, 1, 1, 2};
        for (int what = 0; what < 4; what++) {
            for (int wrong : WRONG) {
                Due.due("relay of land " + wrong, x.relay(wrong, 2, 0, what), NONE);
                Due.due("relay of kind " + wrong, x.relay(0, 2, wrong, what), NONE);
                Due.due("relay of what " + wrong, x.relay(0, 2, 0, wrong), NONE);
                if (what < 3) {
                    Due.due("relay of cell " + wrong, x.relay(0, wrong, 0, what), NONE);
                }
                Due.due("behind a refused one", x.relay(0, 2, 0, what), man[what]);
            }
            Due.due("land 1", x.relay(1, 2, 0, what), NONE);
            Due.due("kind 3", x.relay(0, 2, 3, what), NONE);
            Due.due("kind 2", x.relay(0, 2, 2, what), man[what]);
            Due.due("cell 16", x.relay(0, 16, 0, what), what < 3 ? NONE : 2);
            Due.due("no land", new FerryLand().relay(0, 0, 0, what), NONE);
        }
        Due.due("what 4", x.relay(0, 2, 0, 4), NONE);
        Due.due("what 5", x.relay(0, 2, 0, 5), NONE);
        Due.due("cell 15", x.relay(0, 15, 0, 0), 8);
    }

    // Promise 26

    private static void portageToWhereOneIs() {
        for (int cell : new int[] {0, 1, 7, 15}) {
            portage(NECK, cell, cell, 0, 0);
        }
    }

    private static void portageEndsOnSoil() {
        portage(NECK, 0, 1, 1, 1);
        portage(NECK, 1, 0, 0, 1);
        portage(NECK, 1, 2, 1, 1);
        portage(NECK, 0, 7, 6, 7);
        portage(NECK, 1, 7, 5, 6);
        portage(NECK, 0, 15, 7, 8);
        portage(SEA, 0, 5, 0, 3);
        portage(DRY, 0, 5, 3, 3);
        // By the LEVEL as told.
        portage("size 3 2;row 0 0 5 0;row 1 9 9 9;level 5;", 0, 2, 0, 2);
        portage("size 3 2;row 0 0 5 0;row 1 9 9 9;level 4;", 0, 2, 1, 2);
    }

    private static void portageFewestOnSoilFirst() {
        // Around over WATER it is four, over the SOIL two.
        portage("size 3 2;row 0 0 9 0;row 1 0 0 0;", 0, 2, 0, 4);
        // One SOIL instead of two, though longer.
        portage("size 4 3;row 0 0 9 9 0;row 1 0 9 9 0;row 2 0 0 9 0;", 0, 3, 1, 7);
        // Of ways with as many on SOIL the fewest steps.
        portage("size 3 3;row 0 0 9 0;row 1 0 9 0;row 2 0 9 0;", 0, 2, 1, 2);
        // From SOIL to SOIL over the sea: the last step is one on SOIL.
        portage("size 4 2;row 0 9 9 9 9;row 1 0 0 0 0;", 0, 3, 1, 5);
        portage("size 4 2;row 0 9 9 9 9;row 1 0 0 0 0;", 0, 1, 1, 1);
        portage("size 4 2;row 0 9 9 9 9;row 1 0 0 0 0;", 0, 2, 1, 4);
        // The longest way of all, along bends of water.
        StringBuilder land = new StringBuilder("size 8 7;");
        for (int row = 1; row < 7; row += 2) {
            land.append("row ").append(row).append(row == 3 ? " 0 9 9 9 9 9 9 9;" : " 9 9 9 9 9 9 9 0;");
        }
        portage(land.toString(), 0, 48, 0, 34);
        portage(land.toString(), 48, 0, 0, 34);
    }

    private static void portageOverEdges() {
        portage("size 3 2;row 0 9 9 0;row 1 0 9 9;", 2, 3, 2, 3);
        portage("size 8 8;", 7, 8, 0, 8);
        portage("size 8 8;", 0, 63, 0, 14);
        portage("size 8 8;", 0, 56, 0, 7);
    }

    private static void portageNumbers() {
        FerryLand x = Due.with("size 3 2;row 0 0 9 0;", null);
        for (boolean steps : new boolean[] {false, true}) {
            for (int wrong : WRONG) {
                Due.due("portage of land " + wrong, x.portage(wrong, 0, 1, steps), NONE);
                Due.due("portage from " + wrong, x.portage(0, wrong, 1, steps), NONE);
                Due.due("portage to " + wrong, x.portage(0, 1, wrong, steps), NONE);
                Due.due("portage from and to " + wrong, x.portage(0, wrong, wrong, steps), NONE);
                Due.due("behind a refused one", x.portage(0, 0, 1, steps), 1);
            }
            Due.due("land 1", x.portage(1, 0, 1, steps), NONE);
            Due.due("from 6", x.portage(0, 6, 1, steps), NONE);
            Due.due("to 6", x.portage(0, 1, 6, steps), NONE);
            Due.due("6 to 6", x.portage(0, 6, 6, steps), NONE);
            Due.due("5 to 5", x.portage(0, 5, 5, steps), 0);
            Due.due("no land", new FerryLand().portage(0, 0, 0, steps), NONE);
        }
    }

    // Promise 29

    private static void inland(String land, int want) {
        Due.due("inland of " + land, Due.with(land, null).inland(0), want);
    }

    private static void inlandGreatestBank() {
        inland(COAST, 15);
        inland("size 8 2;row 0 0 9 9 9 9 9 9 9;row 1 0 9 9 9 9 9 9 9;", 7);
        inland(NECK, 11);
        inland("size 3 3;row 0 9 9 9;row 1 9 0 9;row 2 9 9 9;", 0);
        inland("size 3 3;row 0 9 9 9;row 1 9 9 9;row 2 9 9 0;", 0);
        inland("size 3 3;row 0 0 9 9;row 1 9 9 9;row 2 9 9 9;", 8);
        inland("size 2 2;row 0 0 0;row 1 0 9;", 3);
        inland("size 2 2;row 0 9 9;row 1 9 0;", 0);
        inland("size 2 2;row 0 0 9;row 1 9 0;", 1);
    }

    private static void inlandOfNone() {
        inland(SEA, NONE);
        inland(DRY, NONE);
        inland("size 2 2;row 0 5 5;row 1 5 5;level 5;", NONE);
        inland("size 2 2;row 0 5 5;row 1 5 5;level 4;", NONE);
        inland("size 2 2;row 0 5 5;row 1 5 6;level 5;", 3);
    }

    private static void inlandNumbers() {
        FerryLand x = Due.with(COAST, null);
        for (int wrong : WRONG) {
            Due.due("inland of land " + wrong, x.inland(wrong), NONE);
            Due.due("behind a refused one", x.inland(0), 15);
        }
        Due.due("land 1", x.inland(1), NONE);
        Due.due("no land", new FerryLand().inland(0), NONE);
        Due.due("second land", Due.tell(x, 0, NONE, "size 2 2;row 0 0 0;row 1 0 9;"), 1);
        Due.due("land 1", x.inland(1), 3);
        Due.due("land 2", x.inland(2), NONE);
    }
}
