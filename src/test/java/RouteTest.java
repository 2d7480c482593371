/** Promises 18 to 21: routes, where they are, when two meet or pass, how long they are soaked. */
public final class RouteTest {
    private static final int NONE = Due.NONE;

    public static void main(String[] args) {
        told();
        along();
        meetings();
        soakings();
        wrong();
        Due.finish("RouteTest");
    }

    private static void told() {
        FerryLand x = Due.with(Lands.SEA, null, "from 7 6;leg 4 20;leg 0 1;from 2 3;", "leg 3 5;");
        Due.due("column", x.route(0, NONE, 0), 2);
        Due.due("row", x.route(0, NONE, 1), 3);
        Due.due("legs", x.route(0, NONE, 2), 2);
        Due.due("what 3", x.route(0, NONE, 3), -2);
        Due.due("what -1", x.route(0, NONE, -1), -2);
        Due.due("leg 0", x.route(0, 0, 0), 4);
        Due.due("leg 0", x.route(0, 0, 1), 20);
        Due.due("leg 0, what 2", x.route(0, 0, 2), -2);
        Due.due("leg 1", x.route(0, 1, 0), 0);
        Due.due("leg 1", x.route(0, 1, 1), 1);
        Due.due("no leg 2", x.route(0, 2, 0), -2);
        Due.due("from at first", x.route(1, NONE, 0), 0);
        Due.due("from at first", x.route(1, NONE, 1), 0);
        Due.due("one leg", x.route(1, NONE, 2), 1);
        Due.due("no route 2", x.route(2, NONE, 0), -2);
        Due.due("ten legs", Due.tell(x, 2, 1, "leg 0 1;leg 1 2;leg 2 3;leg 3 4;leg 4 5;leg 0 6;leg 1 7;leg 2 8;leg 3 9;leg 4 10;"), 1);
        for (int k = 0; k < 10; k++) {
            Due.due("leg " + k, x.route(1, k, 0), k % 5);
            Due.due("leg " + k, x.route(1, k, 1), k + 1);
        }
        Due.due("no leg 10", x.route(1, 10, 0), -2);
        for (int a : Lands.ODD) {
            Due.due("no route " + a, x.route(a, NONE, 2), a == 0 ? 2 : a == 1 ? 10 : -2);
            Due.due("no leg " + a, x.route(0, a, 1), a == 0 ? 20 : a == 1 ? 1 : a == NONE ? 3 : -2);
            Due.due("no what " + a, x.route(0, 0, a), a == 0 ? 4 : a == 1 ? 20 : -2);
        }
    }

    private static void along() {
        // Three by two: right 3 (one at the edge), down 1, left 1, stay 2; then again from there.
        FerryLand x = Due.with("size 3 2;row 0 0 9 0;", null, "leg 1 3;leg 2 1;leg 3 1;leg 4 2;", "from 2 1;");
        int[] want = {0, 1, 2, 2, 5, 4, 4, 4, 5, 5, 5, 5, 4, 4, 4, 5, 5};
        for (int t = 0; t < want.length; t++) {
            Due.due("at " + t, x.at(0, 0, t), want[t]);
            Due.due("without legs, at " + t, x.at(0, 1, t), 5);
        }
        Due.due("at 999", x.at(0, 0, 999), want[7 + 999 % 7]);
        Due.due("at 1000", x.at(0, 0, 1000), NONE);
        Due.due("at -1", x.at(0, 0, -1), NONE);
        Due.due("without legs", x.at(0, 1, 999), 5);
        Due.due("all edges", Due.tell(x, 2, 1, "leg 0 1;leg 3 2;leg 2 3;leg 1 20;"), 1);
        int[] edges = {0, 0, 0, 0, 3, 3, 3, 4, 5, 5};
        for (int t = 0; t < edges.length; t++) {
            Due.due("edges at " + t, x.at(0, 1, t), edges[t]);
        }
        Due.due("begins at no cell", Due.tell(x, 2, 1, "from 3 0;leg 3 1;"), 1);
        Due.due("no column 3", x.at(0, 1, 0), NONE);
        Due.due("begins at no cell", Due.tell(x, 2, 1, "from 0 2;leg 0 1;"), 1);
        Due.due("no row 2", x.at(0, 1, 0), NONE);
        Due.due("begins at no cell", x.meet(0, 0, 1, 5, 0), -2);
        Due.due("begins at no cell", x.meet(0, 1, 0, 5, 0), -2);
        Due.due("begins at no cell", x.soaked(0, 1, 5, false), NONE);
        Due.due("begins at no cell", x.soaked(0, 1, 5, true), NONE);
        Due.due("a larger land", Due.tell(x, 0, NONE, "size 3 3;"), 1);
        Due.due("there is a row 2", x.at(1, 1, 1), 3);
    }

    private static void meetings() {
        // To and fro along a row of four: 0 1 2 3 2 1 0 .. and 3 2 1 0 1 2 3 ..
        FerryLand x = Due.with("size 4 2;", null, "leg 1 3;leg 3 3;", "from 3 0;leg 3 3;leg 1 3;");
        // They pass between minutes 1 and 2, 4 and 5 and so on.
        int[] passes = {0, 0, 0, 1, 1, 1, 2, 2, 2, 3};
        for (int n = 1; n < passes.length; n++) {
            Due.due("meet in " + n, x.meet(0, 0, 1, n, 0), 0);
            Due.due("pass in " + n, x.meet(0, 0, 1, n, 1), passes[n]);
            Due.due("first meet in " + n, x.meet(0, 0, 1, n, 2), NONE);
            Due.due("first pass in " + n, x.meet(0, 0, 1, n, 3), n < 3 ? NONE : 2);
            Due.due("cell in " + n, x.meet(0, 0, 1, n, 4), NONE);
        }
        // With itself: at one cell all the time, never passing.
        Due.due("itself", x.meet(0, 0, 0, 999, 0), 999);
        Due.due("itself", x.meet(0, 0, 0, 999, 1), 0);
        Due.due("itself", x.meet(0, 0, 0, 999, 2), 0);
        Due.due("itself", x.meet(0, 0, 0, 999, 3), NONE);
        Due.due("itself, of several the least", x.meet(0, 0, 0, 999, 4), 1);
        Due.due("itself", x.meet(0, 0, 0, 1, 4), 0);
        Due.due("itself", x.meet(0, 0, 0, 4, 4), 0);
        // One that stays at 2 meets the other at 2, 4, 8, 10, ..
        Due.due("stays", Due.tell(x, 2, 1, "from 2 0;"), 1);
        int[][] rows = {{1, 0, NONE}, {2, 0, NONE}, {3, 1, 2}, {4, 1, 2}, {5, 2, 2}, {8, 2, 2}, {9, 3, 2}, {11, 4, 2}};
        for (int[] row : rows) {
            Due.due("stays, meet in " + row[0], x.meet(0, 0, 1, row[0], 0), row[1]);
            Due.due("stays, first meet in " + row[0], x.meet(0, 1, 0, row[0], 2), row[2]);
            Due.due("stays, cell in " + row[0], x.meet(0, 0, 1, row[0], 4), row[1] == 0 ? NONE : 2);
            Due.due("stays, pass in " + row[0], x.meet(0, 0, 1, row[0], 1), 0);
        }
        // Two that stay at two cells never pass.
        Due.due("stays", Due.tell(x, 2, 0, "from 1 0;"), 0);
        Due.due("both stay", x.meet(0, 0, 1, 999, 1), 0);
        Due.due("both stay", x.meet(0, 0, 1, 999, 0), 0);
        Due.due("n 0", x.meet(0, 0, 1, 0, 0), -2);
        Due.due("n 1000", x.meet(0, 0, 1, 1000, 0), -2);
        Due.due("what 5", x.meet(0, 0, 1, 5, 5), -2);
        Due.due("what -1", x.meet(0, 0, 1, 5, -1), -2);
    }

    private static void soakings() {
        // 0 1 2 3 2 1 0 ..; soil at 1, 2.
        FerryLand x = Due.with("size 4 2;row 0 0 2 9 0;level 1;", null, "leg 1 3;leg 3 3;", "from 1 0;");
        int[] wet = {0, 1, 1, 1, 2, 2, 2, 3, 3, 3, 4};
        int[] dry = {0, 0, 1, 2, 2, 2, 2, 2, 2, 2, 2};
        for (int n = 1; n < wet.length; n++) {
            Due.due("soaked in " + n, x.soaked(0, 0, n, false), wet[n]);
            Due.due("longest in " + n, x.soaked(0, 0, n, true), dry[n]);
            Due.due("stays on soil " + n, x.soaked(0, 1, n, true), n);
            Due.due("stays on soil " + n, x.soaked(0, 1, n, false), 0);
        }
        Due.due("999", x.soaked(0, 1, 999, true), 999);
        Due.due("1000", x.soaked(0, 1, 1000, true), NONE);
        Due.due("1000", x.soaked(0, 1, 1000, false), NONE);
        Due.due("0", x.soaked(0, 1, 0, true), NONE);
        Due.due("0", x.soaked(0, 1, 0, false), NONE);
        Due.due("sea", Due.tell(x, 0, 0, Lands.SEA), 0);
        Due.due("sea", x.soaked(0, 0, 999, false), 999);
        Due.due("sea", x.soaked(0, 0, 999, true), 0);
    }

    private static void wrong() {
        for (int a : Lands.ODD) {
            FerryLand x = Due.with(Lands.CAPE, null, "leg 2 1;", "from 1 1;");
            boolean route = a == 0 || a == 1;
            Due.due("at land " + a, x.at(a, 0, 0), a == 0 ? 0 : NONE);
            Due.due("at route " + a, x.at(0, a, 0), a == 0 ? 0 : a == 1 ? 5 : NONE);
            Due.due("at minute " + a, x.at(0, 1, a), a >= 0 && a <= 999 ? 5 : NONE);
            for (int what = 0; what < 5; what++) {
                Due.due("meet land " + a, x.meet(a, 0, 1, 3, what) == -2, a != 0);
                Due.due("meet one " + a, x.meet(0, a, 0, 3, what) == -2, !route);
                Due.due("meet other " + a, x.meet(0, 0, a, 3, what) == -2, !route);
                Due.due("meet n " + a, x.meet(0, 0, 1, a, what) == -2, a < 1 || a > 999);
            }
            Due.due("meet what " + a, x.meet(0, 0, 0, 9, a) == -2, a < 0 || a > 4);
            Due.due("soaked land " + a, x.soaked(a, 0, 1, false), a == 0 ? 1 : NONE);
            Due.due("soaked route " + a, x.soaked(0, a, 1, true), route ? a : NONE);
            Due.due("soaked n " + a, x.soaked(0, 1, a, true), a >= 1 && a <= 999 ? a : NONE);
        }
    }
}
