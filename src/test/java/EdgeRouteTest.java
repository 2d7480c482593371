/** Promises 18 to 21 with what Terms 1 and 4 say of ROUTES, sentence by sentence: at each bound, below and above it. */
public final class EdgeRouteTest {
    private static final int NONE = Due.NONE;
    private static final int[] WRONG = {Integer.MIN_VALUE, -1000, -2, -1, 1001, 65536, Integer.MAX_VALUE};

    public static void main(String[] args) {
        routeAtFirst();
        routeBegins();
        laterBeginnings();
        legsAsTold();
        legNumbers();
        routeNumbers();
        atMinuteNone();
        legByLeg();
        staysAtAnEdge();
        staysByDirection();
        beginsAgainWhereItIs();
        withoutLegs();
        atMinutes();
        beginsAtNoCell();
        atNumbers();
        meetAtOneCell();
        meetInTheFirstMinutes();
        passAtMinutes();
        passOfTwoUnlikeCells();
        passNotByOneAlone();
        firstOfBoth();
        cellOfMeeting();
        meetOfOneRoute();
        meetMinutes();
        meetAtNoCell();
        meetNumbers();
        soakedInTheFirstMinutes();
        soakedByLevels();
        longestRows();
        soakedMinutes();
        soakedNumbers();
        Due.finish("EdgeRouteTest");
    }

    private static void at(String land, String route, int... cells) {
        FerryLand x = Due.with(land, null, route);
        for (int t = 0; t < cells.length; t++) {
            Due.due("at " + t + " of " + route + " in " + land, x.at(0, 0, t), cells[t]);
        }
    }

    /** In n minutes: MEET, PASS, FIRST of both, the CELL. */
    private static void meet(String land, String one, String other, int n, int... want) {
        FerryLand x = Due.with(land, null, one, other);
        for (int what = 0; what < 5; what++) {
            Due.due("meet " + what + " of " + one + " and " + other + " in " + n, x.meet(0, 0, 1, n, what), want[what]);
            Due.due("meet " + what + " of " + other + " and " + one + " in " + n, x.meet(0, 1, 0, n, what), want[what]);
        }
    }

    private static void soaked(String land, String route, int n, int wet, int longest) {
        FerryLand x = Due.with(land, null, route);
        Due.due("soaked by " + route + " in " + n, x.soaked(0, 0, n, false), wet);
        Due.due("longest row by " + route + " in " + n, x.soaked(0, 0, n, true), longest);
    }

    // Promise 18

    private static void head(String route, int column, int row, int legs) {
        FerryLand x = Due.with("", null, route);
        Due.due("column of " + route, x.route(0, NONE, 0), column);
        Due.due("row of " + route, x.route(0, NONE, 1), row);
        Due.due("legs of " + route, x.route(0, NONE, 2), legs);
    }

    private static void routeAtFirst() {
        head("", 0, 0, 0);
        head("leg 1 1;", 0, 0, 1);
    }

    private static void routeBegins() {
        head("from 0 0;", 0, 0, 0);
        head("from 7 0;", 7, 0, 0);
        head("from 0 7;", 0, 7, 0);
        head("from 7 7;leg 0 1;", 7, 7, 1);
    }

    private static void laterBeginnings() {
        head("from 1 2;from 3 4;", 3, 4, 0);
        head("from 1 2;leg 1 1;from 0 0;leg 2 2;", 0, 0, 2);
    }

    private static void legsAsTold() {
        FerryLand x = Due.with("", null, "leg 0 1;leg 1 20;leg 2 2;leg 3 19;leg 4 20;leg 4 1;leg 0 1;leg 0 1;leg 3 20;leg 2 10;");
        int[] directions = {0, 1, 2, 3, 4, 4, 0, 0, 3, 2};
        int[] minutes = {1, 20, 2, 19, 20, 1, 1, 1, 20, 10};
        Due.due("ten", x.route(0, NONE, 2), 10);
        for (int k = 0; k < 10; k++) {
            Due.due("direction of " + k, x.route(0, k, 0), directions[k]);
            Due.due("minutes of " + k, x.route(0, k, 1), minutes[k]);
        }
    }

    private static void legNumbers() {
        for (int many : new int[] {0, 1, 9, 10}) {
            FerryLand x = Due.with("", null, "leg 3 7;".repeat(many));
            for (int k : new int[] {-3, -2, 0, 1, 8, 9, 10, 11, Integer.MIN_VALUE, Integer.MAX_VALUE}) {
                boolean there = k >= 0 && k < many;
                Due.due("leg " + k + " of " + many, x.route(0, k, 0), there ? 3 : -2);
                Due.due("leg " + k + " of " + many, x.route(0, k, 1), there ? 7 : -2);
            }
            Due.due("how many", x.route(0, NONE, 2), many);
        }
    }

    private static void routeNumbers() {
        for (int many = 0; many < 3; many++) {
            FerryLand x = Due.with("", null);
            for (int i = 0; i < many; i++) {
                Due.due("route", Due.tell(x, 2, NONE, "from 3 4;leg 1 2;"), i);
            }
            for (int r : new int[] {-2, -1, 0, 1, 2, 3, Integer.MIN_VALUE, Integer.MAX_VALUE}) {
                boolean there = r >= 0 && r < many;
                Due.due("route " + r + " of " + many, x.route(r, NONE, 0), there ? 3 : -2);
                Due.due("route " + r + " of " + many, x.route(r, 0, 1), there ? 2 : -2);
            }
        }
        FerryLand x = Due.with("", null, "from 3 4;leg 1 2;");
        for (int what : new int[] {-2, -1, 3, 4, 10, Integer.MIN_VALUE, Integer.MAX_VALUE}) {
            Due.due("what " + what, x.route(0, NONE, what), -2);
            Due.due("what " + what + " of a leg", x.route(0, 0, what), -2);
            Due.due("behind a refused one", x.route(0, NONE, 1), 4);
        }
        Due.due("what 2 of a leg", x.route(0, 0, 2), -2);
    }

    // Promise 19

    private static void atMinuteNone() {
        for (String leg : new String[] {"", "leg 0 1;", "leg 1 20;", "leg 2 3;", "leg 3 1;", "leg 4 9;"}) {
            at("size 3 3;", "from 1 1;" + leg, 4);
            at("size 8 8;", "from 7 7;" + leg, 63);
            at("size 8 8;", leg, 0);
        }
    }

    private static void legByLeg() {
        at("size 3 3;", "from 1 1;leg 0 1;", 4, 1);
        at("size 3 3;", "from 1 1;leg 1 1;", 4, 5);
        at("size 3 3;", "from 1 1;leg 2 1;", 4, 7);
        at("size 3 3;", "from 1 1;leg 3 1;", 4, 3);
        at("size 3 3;", "from 1 1;leg 4 1;", 4, 4);
        at("size 8 8;", "leg 1 3;leg 2 2;leg 3 1;leg 0 2;", 0, 1, 2, 3, 11, 19, 18, 10, 2);
        at("size 8 8;", "leg 1 1;leg 2 1;", 0, 1, 9, 10, 18, 19);
    }

    /** At an edge it stays for that minute: the minute of the LEG is gone. */
    private static void staysAtAnEdge() {
        at("size 3 3;", "from 2 0;leg 1 2;leg 2 1;", 2, 2, 2, 5, 5, 5, 8);
        at("size 3 3;", "from 0 2;leg 3 2;leg 0 1;", 6, 6, 6, 3, 3, 3, 0);
        at("size 3 3;", "leg 0 2;leg 1 1;", 0, 0, 0, 1, 1, 1, 2);
        at("size 3 3;", "from 2 2;leg 2 2;leg 3 1;", 8, 8, 8, 7, 7, 7, 6);
        at("size 3 3;", "from 1 0;leg 1 3;leg 3 1;", 1, 2, 2, 2, 1, 2, 2, 2, 1);
        at("size 8 8;", "from 7 0;leg 1 1;", 7, 7, 7);
        at("size 8 8;", "from 0 1;leg 3 1;", 8, 8, 8);
        at("size 8 8;", "from 7 7;leg 2 1;", 63, 63, 63);
        at("size 2 2;", "leg 1 20;", 0, 1, 1, 1, 1);
    }

    private static void staysByDirection() {
        at("size 3 3;", "leg 4 2;leg 1 1;leg 4 1;", 0, 0, 0, 1, 1, 1, 1, 2, 2);
        at("size 3 3;", "leg 4 20;", 0, 0, 0, 0);
    }

    /** Behind the last LEG it begins with the first one again, where it is, not where it began. */
    private static void beginsAgainWhereItIs() {
        at("size 8 2;", "leg 1 1;leg 4 1;", 0, 1, 1, 2, 2, 3, 3, 4, 4);
        at("size 8 2;", "leg 1 2;leg 3 1;", 0, 1, 2, 1, 2, 3, 2, 3, 4, 3);
        at("size 8 2;", "leg 1 1;", 0, 1, 2, 3, 4, 5, 6, 7, 7, 7);
        at("size 8 2;", "leg 1 1;leg 1 1;leg 1 1;leg 1 1;leg 1 1;leg 1 1;leg 3 1;leg 3 1;leg 3 1;leg 2 1;", 0, 1, 2, 3, 4, 5, 6, 5, 4, 3, 11, 12);
        FerryLand x = Due.with("size 8 2;", null, "leg 1 7;leg 3 7;");
        for (int t = 0; t < 400; t++) {
            Due.due("to and fro, at " + t, x.at(0, 0, t), t % 14 < 8 ? t % 14 : 14 - t % 14);
        }
    }

    private static void withoutLegs() {
        FerryLand x = Due.with("size 8 8;", null, "from 7 6;", "");
        for (int t : new int[] {0, 1, 2, 998, 999}) {
            Due.due("for ever, at " + t, x.at(0, 0, t), 55);
            Due.due("for ever, at " + t, x.at(0, 1, t), 0);
        }
    }

    private static void atMinutes() {
        FerryLand x = Due.with("size 8 2;", null, "leg 1 7;leg 3 7;", "");
        int[][] rows = {{-2, NONE}, {-1, NONE}, {0, 0}, {1, 1}, {998, 4}, {999, 5}, {1000, NONE}, {1001, NONE}};
        for (int[] row : rows) {
            Due.due("at " + row[0], x.at(0, 0, row[0]), row[1]);
            Due.due("without legs, at " + row[0], x.at(0, 1, row[0]), row[1] == NONE ? NONE : 0);
        }
        for (int wrong : WRONG) {
            Due.due("at " + wrong, x.at(0, 0, wrong), NONE);
            Due.due("behind a refused one", x.at(0, 0, 3), 3);
        }
    }

    private static void beginsAtNoCell() {
        String[] there = {"from 2 0;", "from 0 3;", "from 2 3;", ""};
        int[] cells = {2, 9, 11, 0};
        String[] gone = {"from 3 0;", "from 0 4;", "from 3 3;", "from 2 4;", "from 7 7;", "from 0 7;", "from 7 0;"};
        for (int i = 0; i < there.length; i++) {
            FerryLand x = Due.with("size 3 4;", null, there[i] + "leg 4 1;");
            Due.due(there[i], x.at(0, 0, 0), cells[i]);
            Due.due(there[i], x.soaked(0, 0, 1, false), 1);
        }
        for (String route : gone) {
            FerryLand x = Due.with("size 3 4;", null, route + "leg 3 1;");
            for (int t : new int[] {0, 1, 999}) {
                Due.due(route, x.at(0, 0, t), NONE);
            }
            Due.due(route, x.soaked(0, 0, 1, false), NONE);
            Due.due(route, x.soaked(0, 0, 1, true), NONE);
            Due.due("a larger land", Due.tell(x, 0, 0, "size 8 8;"), 0);
            Due.due(route + " there", x.at(0, 0, 0) == NONE, false);
        }
    }

    private static void atNumbers() {
        FerryLand x = Due.with("size 3 4;", null, "from 1 1;");
        for (int wrong : WRONG) {
            Due.due("at of land " + wrong, x.at(wrong, 0, 0), NONE);
            Due.due("at of route " + wrong, x.at(0, wrong, 0), NONE);
        }
        Due.due("land 1", x.at(1, 0, 0), NONE);
        Due.due("route 1", x.at(0, 1, 0), NONE);
        Due.due("both", x.at(1, 1, 0), NONE);
        Due.due("second route", Due.tell(x, 2, NONE, "from 2 1;"), 1);
        Due.due("second land", Due.tell(x, 0, NONE, "size 2 2;"), 1);
        Due.due("route 1", x.at(0, 1, 0), 5);
        Due.due("land 1", x.at(1, 0, 0), 3);
        Due.due("no cell of land 1", x.at(1, 1, 0), NONE);
        Due.due("land 2", x.at(2, 0, 0), NONE);
        Due.due("route 2", x.at(0, 2, 0), NONE);
        Due.due("nothing told", new FerryLand().at(0, 0, 0), NONE);
    }

    // Promise 20

    private static void meetAtOneCell() {
        // 0 1 2 3 3 .. and one that stays at 2.
        meet("size 4 2;", "leg 1 20;", "from 2 0;", 2, 0, 0, NONE, NONE, NONE);
        meet("size 4 2;", "leg 1 20;", "from 2 0;", 3, 1, 0, 2, NONE, 2);
        meet("size 4 2;", "leg 1 20;", "from 2 0;", 4, 1, 0, 2, NONE, 2);
        meet("size 4 2;", "leg 1 20;", "from 3 0;", 20, 17, 0, 3, NONE, 3);
        meet("size 4 2;", "leg 1 20;", "from 0 1;", 999, 0, 0, NONE, NONE, NONE);
    }

    /** Minutes 0 to n - 1: a MEETING at minute 0 counts, one at n does not. */
    private static void meetInTheFirstMinutes() {
        meet("size 4 2;", "from 1 0;leg 1 1;", "from 1 0;leg 3 1;", 1, 1, 0, 0, NONE, 1);
        meet("size 4 2;", "from 1 0;leg 1 1;", "from 1 0;leg 3 1;", 2, 1, 0, 0, NONE, 1);
        meet("size 4 2;", "leg 1 1;", "from 2 0;leg 3 1;", 1, 0, 0, NONE, NONE, NONE);
        meet("size 4 2;", "leg 1 1;", "from 2 0;leg 3 1;", 2, 1, 0, 1, NONE, 1);
        meet("size 4 2;", "leg 1 1;", "from 2 0;leg 3 1;", 3, 1, 0, 1, NONE, 1);
    }

    /** Minutes 1 to n - 1. */
    private static void passAtMinutes() {
        meet("size 4 2;", "leg 1 1;leg 3 1;", "from 1 0;leg 3 1;leg 1 1;", 1, 0, 0, NONE, NONE, NONE);
        meet("size 4 2;", "leg 1 1;leg 3 1;", "from 1 0;leg 3 1;leg 1 1;", 2, 0, 1, NONE, 1, NONE);
        meet("size 4 2;", "leg 1 1;leg 3 1;", "from 1 0;leg 3 1;leg 1 1;", 3, 0, 2, NONE, 1, NONE);
        meet("size 4 2;", "leg 1 1;leg 3 1;", "from 1 0;leg 3 1;leg 1 1;", 998, 0, 997, NONE, 1, NONE);
        meet("size 4 2;", "leg 1 1;leg 3 1;", "from 1 0;leg 3 1;leg 1 1;", 999, 0, 998, NONE, 1, NONE);
        meet("size 4 2;", "leg 1 20;", "from 3 0;leg 3 20;", 2, 0, 0, NONE, NONE, NONE);
        meet("size 4 2;", "leg 1 20;", "from 3 0;leg 3 20;", 3, 0, 1, NONE, 2, NONE);
        meet("size 4 2;", "leg 1 20;", "from 3 0;leg 3 20;", 20, 0, 1, NONE, 2, NONE);
        // From above, too.
        meet("size 2 4;", "leg 2 20;", "from 0 1;leg 0 20;", 5, 0, 1, NONE, 1, NONE);
    }

    private static void passOfTwoUnlikeCells() {
        meet("size 4 2;", "from 1 0;", "from 1 0;", 999, 999, 0, 0, NONE, 1);
        meet("size 4 2;", "from 1 0;leg 4 1;", "from 1 0;", 2, 2, 0, 0, NONE, 1);
        meet("size 4 2;", "leg 1 1;", "leg 1 1;", 9, 9, 0, 0, NONE, 3);
    }

    private static void passNotByOneAlone() {
        // One comes where the other one was, but that one went on.
        meet("size 4 2;", "leg 1 20;", "from 1 0;leg 1 20;", 3, 0, 0, NONE, NONE, NONE);
        meet("size 4 2;", "leg 1 20;", "from 1 0;leg 1 20;", 4, 1, 0, 3, NONE, 3);
        meet("size 4 2;", "leg 1 20;", "from 1 0;leg 2 20;", 9, 0, 0, NONE, NONE, NONE);
        // Each stays where it is.
        meet("size 4 2;", "", "from 1 0;", 999, 0, 0, NONE, NONE, NONE);
        // At an edge one stays, the other one comes to it: they MEET.
        meet("size 2 2;", "leg 3 20;", "from 1 0;leg 3 20;", 2, 1, 0, 1, NONE, 0);
        // From a row's end to the next one's begin there is no step.
        meet("size 2 2;", "from 1 0;leg 1 20;", "from 0 1;leg 3 20;", 9, 0, 0, NONE, NONE, NONE);
    }

    private static void firstOfBoth() {
        // One waits two minutes, then comes along.
        String waits = "leg 4 2;leg 1 20;";
        meet("size 8 2;", waits, "from 3 0;", 5, 0, 0, NONE, NONE, NONE);
        meet("size 8 2;", waits, "from 3 0;", 6, 1, 0, 5, NONE, 3);
        meet("size 8 2;", waits, "from 1 0;leg 4 2;leg 3 1;", 3, 0, 0, NONE, NONE, NONE);
        meet("size 8 2;", waits, "from 1 0;leg 4 2;leg 3 1;", 4, 0, 1, NONE, 3, NONE);
        meet("size 8 2;", waits, "from 1 0;leg 4 2;leg 3 1;", 999, 0, 1, NONE, 3, NONE);
        // Both of them in one: at minute 0, then a PASS at 2.
        meet("size 8 2;", "leg 1 1;leg 3 1;", "leg 4 1;leg 1 1;leg 3 1;leg 1 1;", 3, 1, 1, 0, 2, 0);
    }

    private static void cellOfMeeting() {
        // One at 0 twice, at 1 once; then as often at both; then at 1 more often.
        String one = "leg 4 1;leg 1 1;leg 4 9;";
        meet("size 8 2;", one, one, 2, 2, 0, 0, NONE, 0);
        meet("size 8 2;", one, one, 3, 3, 0, 0, NONE, 0);
        meet("size 8 2;", one, one, 4, 4, 0, 0, NONE, 0);
        meet("size 8 2;", one, one, 5, 5, 0, 0, NONE, 1);
        // Of several the least, also if it was the later one.
        String back = "from 1 0;leg 4 1;leg 3 1;leg 4 9;";
        meet("size 8 2;", back, back, 3, 3, 0, 0, NONE, 1);
        meet("size 8 2;", back, back, 4, 4, 0, 0, NONE, 0);
        meet("size 8 8;", "from 7 7;", "from 7 7;", 1, 1, 0, 0, NONE, 63);
    }

    private static void meetOfOneRoute() {
        FerryLand x = Due.with("size 4 2;", null, "leg 1 3;leg 3 3;");
        int[] want = {999, 0, 0, NONE, 1};
        for (int what = 0; what < 5; what++) {
            Due.due("with itself, " + what, x.meet(0, 0, 0, 999, what), want[what]);
        }
    }

    private static void meetMinutes() {
        FerryLand x = Due.with("size 4 2;", null, "leg 1 1;leg 3 1;", "from 1 0;");
        for (int what = 0; what < 5; what++) {
            for (int n : new int[] {-2, -1, 0, 1000, 1001, Integer.MIN_VALUE, Integer.MAX_VALUE}) {
                Due.due("meet " + what + " in " + n, x.meet(0, 0, 1, n, what), -2);
            }
            Due.due("meet " + what + " in 1", x.meet(0, 0, 1, 1, what), new int[] {0, 0, NONE, NONE, NONE}[what]);
            Due.due("meet " + what + " in 998", x.meet(0, 0, 1, 998, what), new int[] {499, 0, 1, NONE, 1}[what]);
            Due.due("meet " + what + " in 999", x.meet(0, 0, 1, 999, what), new int[] {499, 0, 1, NONE, 1}[what]);
        }
    }

    private static void meetAtNoCell() {
        String[] gone = {"from 4 0;", "from 0 2;", "from 7 7;"};
        for (String route : gone) {
            FerryLand x = Due.with("size 4 2;", null, route, "from 3 1;");
            for (int what = 0; what < 5; what++) {
                Due.due(route + " one", x.meet(0, 0, 1, 9, what), -2);
                Due.due(route + " other", x.meet(0, 1, 0, 9, what), -2);
                Due.due(route + " both", x.meet(0, 0, 0, 9, what), -2);
                Due.due("the one that is there", x.meet(0, 1, 1, 9, what), new int[] {9, 0, 0, NONE, 7}[what]);
            }
        }
    }

    private static void meetNumbers() {
        FerryLand x = Due.with("size 4 2;", null, "from 1 0;", "from 1 0;");
        int[] want = {9, 0, 0, NONE, 1};
        for (int what = 0; what < 5; what++) {
            for (int wrong : WRONG) {
                Due.due("meet of land " + wrong, x.meet(wrong, 0, 1, 9, what), -2);
                Due.due("meet of one " + wrong, x.meet(0, wrong, 1, 9, what), -2);
                Due.due("meet of other " + wrong, x.meet(0, 0, wrong, 9, what), -2);
                Due.due("meet of both " + wrong, x.meet(0, wrong, wrong, 9, what), -2);
                Due.due("meet of what " + wrong, x.meet(0, 0, 1, 9, wrong), -2);
                Due.due("behind a refused one", x.meet(0, 0, 1, 9, what), want[what]);
            }
            Due.due("land 1", x.meet(1, 0, 1, 9, what), -2);
            Due.due("one 2", x.meet(0, 2, 1, 9, what), -2);
            Due.due("other 2", x.meet(0, 0, 2, 9, what), -2);
            Due.due("nothing told", new FerryLand().meet(0, 0, 0, 9, what), -2);
        }
        Due.due("what 5", x.meet(0, 0, 1, 9, 5), -2);
        Due.due("what 6", x.meet(0, 0, 1, 9, 6), -2);
        FerryLand one = Due.with("size 4 2;", null, "from 1 0;");
        Due.due("other 1 of one", one.meet(0, 0, 1, 9, 0), -2);
        Due.due("one 1 of one", one.meet(0, 1, 0, 9, 0), -2);
    }

    // Promise 21

    private static void soakedInTheFirstMinutes() {
        String land = "size 4 2;row 0 0 9 9 0;";
        int[][] rows = {{1, 1, 0}, {2, 1, 1}, {3, 1, 2}, {4, 2, 2}, {5, 3, 2}, {998, 996, 2}, {999, 997, 2}};
        for (int[] row : rows) {
            soaked(land, "leg 1 20;", row[0], row[1], row[2]);
        }
        soaked(land, "from 1 0;", 1, 0, 1);
        soaked(land, "from 1 0;", 999, 0, 999);
        soaked(land, "", 1, 1, 0);
        soaked(land, "", 999, 999, 0);
    }

    private static void soakedByLevels() {
        // A HEIGHT of 5, LEVELS of 4, 5, 6.
        for (int level = 0; level < 10; level++) {
            soaked("size 2 2;row 0 5;level " + level + ";", "", 7, level < 5 ? 0 : 7, level < 5 ? 7 : 0);
        }
    }

    private static void longestRows() {
        String land = "size 8 2;row 0 9 9 0 9 9 9 0 9;";
        int[] longest = {1, 2, 2, 2, 2, 3, 3, 3, 3, 3, 4};
        int[] wet = {0, 0, 1, 1, 1, 1, 2, 2, 2, 2, 2};
        for (int n = 1; n < 12; n++) {
            soaked(land, "leg 1 20;", n, wet[n - 1], longest[n - 1]);
        }
        // The longest one is the first one, one in the midst, the last one.
        soaked("size 8 2;row 0 9 9 9 0 9 9 0 9;", "leg 1 20;", 8, 2, 3);
        soaked("size 8 2;row 0 9 9 0 9 9 9 0 9;", "leg 1 20;", 8, 2, 3);
        soaked("size 8 2;row 0 9 9 0 9 0 9 9 9;", "leg 1 20;", 8, 2, 3);
        soaked("size 8 2;row 0 9 9 0 9 0 9 9 9;", "leg 1 20;", 7, 2, 2);
        // A row of minutes, not of CELLS: staying counts, too.
        soaked("size 8 2;row 0 0 9;", "leg 1 1;leg 4 4;leg 3 1;", 7, 2, 5);
    }

    private static void soakedMinutes() {
        FerryLand x = Due.with("size 2 2;row 0 9;", null, "");
        for (int n : new int[] {-2, -1, 0, 1000, 1001, Integer.MIN_VALUE, Integer.MAX_VALUE}) {
            Due.due("soaked in " + n, x.soaked(0, 0, n, false), NONE);
            Due.due("longest in " + n, x.soaked(0, 0, n, true), NONE);
            Due.due("behind a refused one", x.soaked(0, 0, 5, true), 5);
        }
        for (int n : new int[] {1, 2, 998, 999}) {
            Due.due("soaked in " + n, x.soaked(0, 0, n, false), 0);
            Due.due("longest in " + n, x.soaked(0, 0, n, true), n);
        }
    }

    private static void soakedNumbers() {
        FerryLand x = Due.with("size 2 2;", null, "");
        for (boolean soil : new boolean[] {false, true}) {
            for (int wrong : WRONG) {
                Due.due("soaked of land " + wrong, x.soaked(wrong, 0, 5, soil), NONE);
                Due.due("soaked of route " + wrong, x.soaked(0, wrong, 5, soil), NONE);
                Due.due("behind a refused one", x.soaked(0, 0, 5, soil), soil ? 0 : 5);
            }
            Due.due("land 1", x.soaked(1, 0, 5, soil), NONE);
            Due.due("route 1", x.soaked(0, 1, 5, soil), NONE);
            Due.due("nothing told", new FerryLand().soaked(0, 0, 5, soil), NONE);
        }
    }
}
