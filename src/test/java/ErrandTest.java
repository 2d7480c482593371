/** Promises 11, 12, 13, 26 and 29: errands, relays, portages, inland. */
public final class ErrandTest {
    private static final int NONE = Due.NONE;

    public static void main(String[] args) {
        errands();
        free();
        relays();
        portages();
        wrong();
        Due.finish("ErrandTest");
    }

    private static void errands() {
        FerryLand x = Due.with(Lands.CAPE, null);
        Due.due("over the cape", x.errand(0, 0, 0, 3), 3);
        Due.due("a child over the cape", x.errand(0, 1, 0, 3), 3);
        Due.due("at one", x.errand(0, 0, 6, 6), 0);
        Due.due("on soil at once", x.errand(0, 1, 1, 2), 1);
        Due.due("hour 1", Due.tell(x, 0, 0, Lands.CAPE + "hour 1;"), 0);
        Due.due("around", x.errand(0, 0, 0, 3), 7);
        Due.due("from soil", x.errand(0, 0, 1, 2), 1);
        Due.due("begun with none ashore", x.errand(0, 0, 1, 7), 3);
        Due.due("to the soil behind", x.errand(0, 0, 0, 2), 8);
        // A row of soil, water in its midst: on the water one must rest before going on.
        String strip = "size 5 2;row 0 1 1 0 1 1;row 1 9 9 9 9 9;hour 2;";
        int[] want = {4, 4, 5, 6, 7};
        for (int afloat = 0; afloat < 5; afloat++) {
            Due.due("strip", Due.tell(x, 0, 0, strip + "afloat " + afloat + ";"), 0);
            Due.due("rest of " + afloat, x.errand(0, 0, 0, 4), want[afloat]);
            Due.due("a sleeper, rest of " + afloat, x.errand(0, 2, 0, 4), want[afloat]);
            Due.due("a child can't", x.errand(0, 1, 0, 4), NONE);
        }
        Due.due("hour 5", Due.tell(x, 0, 0, strip + "afloat 20;hour 4;"), 0);
        Due.due("no rest is needed", x.errand(0, 0, 0, 4), 4);
        Due.due("hour 3", Due.tell(x, 0, 0, strip + "afloat 20;hour 3;"), 0);
        Due.due("no rest is needed", x.errand(0, 0, 0, 4), 4);
        Due.due("a child", x.errand(0, 1, 0, 4), NONE);
        Due.due("hour 2", Due.tell(x, 0, 0, strip + "afloat 20;hour 2;"), 0);
        Due.due("the longest rest", x.errand(0, 0, 0, 4), 23);
        Due.due("the wide land", Due.tell(x, 0, 0, Lands.WIDE), 0);
        Due.due("all over soil", x.errand(0, 0, 0, 63), 14);
        Due.due("a child all over soil", x.errand(0, 1, 0, 63), 14);
        Due.due("hour 13", Due.tell(x, 0, 0, Lands.WIDE + "hour 13;"), 0);
        Due.due("13 on soil", x.errand(0, 0, 0, 63), 14);
        Due.due("6 for a child", x.errand(0, 1, 0, 63), NONE);
        Due.due("hour 12", Due.tell(x, 0, 0, Lands.WIDE + "hour 12;"), 0);
        Due.due("too far", x.errand(0, 0, 0, 63), NONE);
        Due.due("the sea", Due.tell(x, 0, 0, Lands.SEA), 0);
        Due.due("the sea", x.errand(0, 1, 0, 35), 10);
    }

    private static void free() {
        FerryLand x = Due.with(Lands.SEA, null);
        int[] want = {1, 3, 6, 10, 15, 21, 26, 30, 33, 35, 36, 36};
        for (int n = 0; n < want.length; n++) {
            Due.due("free at sea " + n, x.free(0, 0, 0, n), want[n]);
        }
        Due.due("free 99", x.free(0, 2, 14, 99), 36);
        Due.due("free 100", x.free(0, 0, 0, 100), NONE);
        Due.due("free -1", x.free(0, 0, 0, -1), NONE);
        Due.due("strip", Due.tell(x, 0, 0, "size 5 2;row 0 1 1 0 1 1;row 1 9 9 9 9 9;hour 2;afloat 4;"), 0);
        int[] strip = {1, 3, 5, 7, 7, 7, 7, 9, 9};
        int[] child = {1, 3, 4, 4, 4, 4, 6, 6, 6};
        for (int n = 0; n < strip.length; n++) {
            Due.due("free on the strip " + n, x.free(0, 0, 0, n), strip[n]);
            Due.due("free for a child " + n, x.free(0, 1, 0, n), child[n]);
        }
    }

    private static void relays() {
        FerryLand x = Due.with(Lands.CAPE, null);
        // cell, kind, bank, minutes, how many
        int[][] rows = {{1, 0, 1, 3, 0}, {2, 0, 1, 3, 2}, {2, 1, 1, 1, 5}, {2, 2, 1, 3, 2}, {5, 0, 1, 3, 1}, {5, 1, 1, 1, 2}, {6, 2, 1, 3, 0}};
        for (int[] row : rows) {
            for (int what = 0; what < 3; what++) {
                Due.due("relay " + row[0] + " " + row[1] + " " + what, x.relay(0, row[0], row[1], what), row[2 + what]);
            }
        }
        Due.due("row", x.relay(0, 2, 0, 3), 2);
        Due.due("row, whatever the cell is", x.relay(0, -7, 1, 3), 2);
        Due.due("row, whatever the cell is", x.relay(0, 12, 2, 3), 2);
        Due.due("row, whatever the cell is", x.relay(0, Integer.MAX_VALUE, 2, 3), 2);
        for (int what = 0; what < 3; what++) {
            Due.due("no soil", x.relay(0, 0, 0, what), NONE);
            Due.due("no cell", x.relay(0, 12, 0, what), NONE);
            Due.due("no cell", x.relay(0, -1, 0, what), NONE);
            Due.due("no kind", x.relay(0, 2, 3, what), NONE);
            Due.due("no kind", x.relay(0, 2, -1, what), NONE);
        }
        Due.due("no kind", x.relay(0, 2, 3, 3), NONE);
        Due.due("what 4", x.relay(0, 2, 0, 4), NONE);
        Due.due("what -1", x.relay(0, 2, 0, -1), NONE);
        Due.due("inland", x.inland(0), 1);
        farRelays(x);
        Due.due("dry", Due.tell(x, 0, 0, Lands.DRY), 0);
        for (int what = 0; what < 4; what++) {
            Due.due("no water " + what, x.relay(0, 0, 0, what), NONE);
            Due.due("no water " + what, x.relay(0, 3, 0, what), NONE);
        }
        Due.due("no water", x.inland(0), NONE);
        Due.due("sea", Due.tell(x, 0, 0, "work 0 0 5;"), 0);
        Due.due("no soil", x.inland(0), NONE);
        Due.due("no soil", x.relay(0, 0, 0, 3), NONE);
    }

    private static void farRelays(FerryLand x) {
        // Banks 1 to 4 along a strip; a stint is hour + 1 - 2 banks.
        String strip = "size 5 2;row 0 0 9 9 9 9;row 1 0 9 9 9 9;work 4 0 2;work 3 1 5;work 1 0 9;";
        int[][] stints = {{7, 6, 4, 2, 0}, {8, 7, 5, 3, 1}, {4, 3, 1, 0, 0}};
        for (int[] row : stints) {
            Due.due("strip", Due.tell(x, 0, 0, strip + "hour " + row[0] + ";"), 0);
            for (int bank = 1; bank < 5; bank++) {
                Due.due("bank", x.relay(0, bank, 0, 0), bank);
                Due.due("bank", x.relay(0, 5 + bank, 0, 0), bank);
                Due.due("stint of hour " + row[0], x.relay(0, bank, 0, 1), row[bank]);
            }
        }
        Due.due("hour 4: work that can't be done", x.relay(0, 4, 0, 2), NONE);
        Due.due("hour 4: no work", x.relay(0, 3, 0, 2), 0);
        Due.due("hour 4: what can", x.relay(0, 1, 0, 2), 3);
        Due.due("hour 4: row", x.relay(0, 0, 0, 3), 1);
        Due.due("hour 8", Due.tell(x, 0, 0, strip + "hour 8;"), 0);
        Due.due("two of two, of several the least", x.relay(0, 0, 0, 3), 1);
        Due.due("five in two", x.relay(0, 8, 0, 2), 2);
        Due.due("two, one by one", x.relay(0, 4, 0, 2), 2);
        Due.due("a child's limit is 4", x.relay(0, 1, 1, 1), 3);
        Due.due("a child's row", x.relay(0, 1, 1, 3), 1);
        Due.due("hour 9", Due.tell(x, 0, 0, strip + "hour 9;work 3 1 9;work 1 0 8;"), 0);
        Due.due("row by how many, not by cells", x.relay(0, 0, 0, 3), 8);
        Due.due("inland", x.inland(0), 4);
        Due.due("hour 1", Due.tell(x, 0, 0, strip + "hour 1;"), 0);
        Due.due("hour 1: nothing", x.relay(0, 1, 0, 1), 0);
        Due.due("hour 1: nothing", x.relay(0, 1, 0, 2), NONE);
        Due.due("hour 1: row", x.relay(0, 1, 0, 3), NONE);
        Due.due("wide", Due.tell(x, 0, 0, Lands.WIDE), 0);
        Due.due("wide: bank", x.relay(0, 56, 0, 0), 7);
        Due.due("wide: stint", x.relay(0, 56, 0, 1), 47);
        Due.due("wide: child's stint", x.relay(0, 56, 1, 1), 17);
        Due.due("wide: child's turns", x.relay(0, 56, 1, 2), 2);
        Due.due("wide: inland", x.inland(0), 7);
    }

    private static void portages() {
        FerryLand x = Due.with(Lands.CAPE, null);
        // from, to, on soil, all
        int[][] rows = {{0, 3, 0, 7}, {0, 0, 0, 0}, {6, 6, 0, 0}, {0, 1, 1, 1}, {1, 0, 0, 1}, {0, 2, 1, 8}, {1, 2, 1, 1}, {1, 3, 0, 8}, {5, 6, 1, 1}, {2, 5, 1, 6},
            {6, 1, 1, 6}};
        for (int[] row : rows) {
            String name = "portage " + row[0] + " " + row[1];
            Due.due(name, x.portage(0, row[0], row[1], false), row[2]);
            Due.due(name + " steps", x.portage(0, row[0], row[1], true), row[3]);
        }
        Due.due("wide", Due.tell(x, 0, 0, Lands.WIDE), 0);
        Due.due("wide", x.portage(0, 0, 63, false), 13);
        Due.due("wide steps", x.portage(0, 0, 63, true), 14);
        Due.due("dry", Due.tell(x, 0, 0, Lands.DRY), 0);
        Due.due("dry", x.portage(0, 0, 3, false), 2);
        Due.due("dry steps", x.portage(0, 0, 3, true), 2);
        // The longest way round over water.
        Due.due("bends", Due.tell(x, 0, 0, "size 8 7;row 1 9 9 9 9 9 9 9 0;row 3 0 9 9 9 9 9 9 9;row 5 9 9 9 9 9 9 9 0;"), 0);
        Due.due("bends", x.portage(0, 0, 48, false), 0);
        Due.due("bends steps", x.portage(0, 0, 48, true), 34);
    }

    private static void wrong() {
        FerryLand x = Due.with(Lands.CAPE, null);
        for (int a : Lands.ODD) {
            boolean cell = a >= 0 && a < 12;
            boolean kind = a >= 0 && a < 3;
            Due.due("errand land " + a, x.errand(a, 0, 0, 0), a == 0 ? 0 : NONE);
            Due.due("errand kind " + a, x.errand(0, a, 0, 0), kind ? 0 : NONE);
            Due.due("errand from " + a, x.errand(0, 0, a, a), cell ? 0 : NONE);
            Due.due("errand from " + a, x.errand(0, 0, a, 0) == NONE, !cell);
            Due.due("errand to " + a, x.errand(0, 0, 0, a) == NONE, !cell);
            Due.due("free land " + a, x.free(a, 0, 0, 0), a == 0 ? 1 : NONE);
            Due.due("free kind " + a, x.free(0, a, 0, 0), kind ? 1 : NONE);
            Due.due("free from " + a, x.free(0, 0, a, 0), cell ? 1 : NONE);
            Due.due("free n " + a, x.free(0, 0, 0, a) == NONE, a < 0 || a > 99);
        }
        wrongRelays();
    }

    private static void wrongRelays() {
        FerryLand x = Due.with(Lands.CAPE, null);
        for (int a : Lands.ODD) {
            boolean cell = a >= 0 && a < 12;
            boolean kind = a >= 0 && a < 3;
            Due.due("relay land " + a, x.relay(a, 2, 0, 0), a == 0 ? 1 : NONE);
            Due.due("relay land " + a, x.relay(a, 2, 0, 3), a == 0 ? 2 : NONE);
            Due.due("relay cell " + a, x.relay(0, a, 0, 0), a == 1 || a == 2 || a == 5 ? 1 : NONE);
            Due.due("relay kind " + a, x.relay(0, 2, a, 0), kind ? 1 : NONE);
            Due.due("relay kind " + a, x.relay(0, 2, a, 3), kind ? 2 : NONE);
            Due.due("relay what " + a, x.relay(0, 2, 0, a) == NONE, a < 0 || a > 3);
            Due.due("portage land " + a, x.portage(a, 1, 1, false), a == 0 ? 0 : NONE);
            Due.due("portage from " + a, x.portage(0, a, 1, true) == NONE, !cell);
            Due.due("portage to " + a, x.portage(0, 1, a, false) == NONE, !cell);
            Due.due("inland " + a, x.inland(a), a == 0 ? 1 : NONE);
        }
    }
}
