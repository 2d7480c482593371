import java.util.function.ToLongFunction;

/** Behind each refused call, and behind each question, all that is told is as it was. */
public final class RefusedTest {
    private static final int NONE = Due.NONE;

    public static void main(String[] args) {
        theTape();
        texts();
        lands();
        days();
        errands();
        waters();
        routes();
        sights();
        images();
        questions();
        refusedFeeds();
        refusedBeforeAnything();
        Due.finish("RefusedTest");
    }

    private static void refused(String name, long want, ToLongFunction<FerryLand> call) {
        FerryLand x = Lands.full();
        Due.due(name, call.applyAsLong(x), want);
        Due.due(name + " again", call.applyAsLong(x), want);
        Twin.same("behind " + name, x, Lands.full(), Lands.TAPE.length());
    }

    private static int yes(boolean answer) {
        return answer ? 1 : 0;
    }

    private static void theTape() {
        refused("end(-1)", NONE, x -> x.end(-1));
        refused("end(16)", NONE, x -> x.end(16));
        refused("end(least)", NONE, x -> x.end(Integer.MIN_VALUE));
        refused("end(most)", NONE, x -> x.end(Integer.MAX_VALUE));
        refused("end of all", 15, x -> x.end(15));
    }

    /** A refused text takes the tape, and the FAULT is 0 then; all else stays. */
    private static void texts() {
        int[][] rows = {{-1, NONE}, {4, NONE}, {0, NONE}, {1, NONE}, {2, NONE}, {3, NONE}, {0, 2}, {1, 2}, {2, -2}, {3, 3}, {4, 0}, {-1, 0}};
        for (int[] row : rows) {
            FerryLand x = Lands.full();
            FerryLand y = Lands.full();
            Due.due("text " + row[0] + ", " + row[1], x.text(row[0], row[1]), -2);
            Due.due("no fault", x.fault(0), 0);
            Due.due("no place", x.fault(1), NONE);
            Due.due("nothing on the tape", x.end(1), NONE);
            Due.due("the other one's text", Due.tell(y, 7, NONE, ""), -2);
            Twin.same("behind text " + row[0] + ", " + row[1], x, y, 0);
        }
        // A text with a fault: all but the tape and the FAULT stays.
        String[] bad = {"size 2 2;row 0 9 9 9;man 1 1;man 9 9;", "moor 0;moor 1;moor 5;", "from 1 1;leg 1 1;leg 5 1;", "from 1 1;seen 1 1 1;seen 1 1 8;"};
        for (int sort = 0; sort < 4; sort++) {
            for (int at = 0; at < 2; at++) {
                FerryLand x = Lands.full();
                FerryLand y = Lands.full();
                x.end(0);
                y.end(0);
                Due.due("a bad text", Due.tell(x, sort, at, bad[sort]), NONE);
                Due.due("FAULT 2", x.fault(0), 2);
                Due.due("a good one then", Due.tell(x, 0, 1, Lands.DRY), 1);
                Due.due("a good one", Due.tell(y, 0, 1, Lands.DRY), 1);
                Twin.same("behind a bad text of sort " + sort, x, y, 0);
            }
        }
    }

    private static void lands() {
        refused("fault(2)", NONE, x -> x.fault(2));
        refused("fault(-1)", NONE, x -> x.fault(-1));
        refused("land(2, 0)", NONE, x -> x.land(2, 0));
        refused("land(-1, 0)", NONE, x -> x.land(-1, 0));
        refused("land(0, 6)", NONE, x -> x.land(0, 6));
        refused("land(0, -1)", NONE, x -> x.land(0, -1));
        refused("land(0, 13)", NONE, x -> x.land(0, 13));
        refused("land(0, 23)", NONE, x -> x.land(0, 23));
        refused("cell(2, 0)", NONE, x -> x.cell(2, 0, false));
        refused("cell(0, 12)", NONE, x -> x.cell(0, 12, false));
        refused("cell(0, -1)", NONE, x -> x.cell(0, -1, true));
        refused("cell(1, 4)", NONE, x -> x.cell(1, 4, true));
        refused("count(4)", -2, x -> x.count(4));
        refused("count(-1)", -2, x -> x.count(-1));
    }

    private static void days() {
        refused("deed(2)", -2, x -> x.deed(2, 0, 0));
        refused("deed(-1)", -2, x -> x.deed(-1, NONE, 0));
        refused("deed(0, 15)", -2, x -> x.deed(0, 15, 0));
        refused("deed(0, -2)", -2, x -> x.deed(0, -2, 0));
        refused("deed(0, 0, 3)", -2, x -> x.deed(0, 0, 3));
        refused("deed(0, NONE, 1)", -2, x -> x.deed(0, NONE, 1));
        refused("stop(2, 0)", NONE, x -> x.stop(2, 0));
        refused("stop(0, 2)", NONE, x -> x.stop(0, 2));
        refused("stop(-1, 0)", NONE, x -> x.stop(-1, 0));
        refused("state(2, 0, 0, 0)", -2, x -> x.state(2, 0, 0, 0));
        refused("state(0, 2, 0, 0)", -2, x -> x.state(0, 2, 0, 0));
        refused("state(0, 0, 15, 0)", -2, x -> x.state(0, 0, 15, 0));
        refused("state(0, 0, -1, 0)", -2, x -> x.state(0, 0, -1, 0));
        refused("state(0, 0, 14, 4)", -2, x -> x.state(0, 0, 14, 4));
        refused("state(0, 0, 14, 13)", -2, x -> x.state(0, 0, 14, 13));
        refused("drawn(2)", -2, x -> x.drawn(2, 1, 5, 0));
        refused("drawn(0, 1, 61, 0)", -2, x -> x.drawn(0, 1, 61, 0));
        refused("drawn(0, 1, -1, 0)", -2, x -> x.drawn(0, 1, -1, 0));
        refused("drawn(0, 1, 60, 4)", -2, x -> x.drawn(0, 1, 60, 4));
        refused("drawn(0, 1, 60, 53)", -2, x -> x.drawn(0, 1, 60, 53));
    }

    private static void errands() {
        refused("errand(2)", NONE, x -> x.errand(2, 0, 0, 0));
        refused("errand(0, 3)", NONE, x -> x.errand(0, 3, 0, 0));
        refused("errand(0, -1)", NONE, x -> x.errand(0, -1, 0, 0));
        refused("errand from 12", NONE, x -> x.errand(0, 0, 12, 0));
        refused("errand to 12", NONE, x -> x.errand(0, 0, 0, 12));
        refused("errand by none", NONE, x -> x.errand(1, 0, 0, 3));
        refused("free(-1)", NONE, x -> x.free(-1, 0, 0, 0));
        refused("free(0, 3)", NONE, x -> x.free(0, 3, 0, 0));
        refused("free from 12", NONE, x -> x.free(0, 0, 12, 0));
        refused("free in 100", NONE, x -> x.free(0, 0, 0, 100));
        refused("free in -1", NONE, x -> x.free(0, 0, 0, -1));
        refused("relay(2)", NONE, x -> x.relay(2, 1, 0, 0));
        refused("relay of 12", NONE, x -> x.relay(0, 12, 0, 0));
        refused("relay of water", NONE, x -> x.relay(0, 0, 0, 2));
        refused("relay without water", NONE, x -> x.relay(1, 0, 0, 1));
        refused("relay by 3", NONE, x -> x.relay(0, 1, 3, 3));
        refused("relay, 4", NONE, x -> x.relay(0, 1, 0, 4));
        refused("portage(2)", NONE, x -> x.portage(2, 0, 0, true));
        refused("portage from 12", NONE, x -> x.portage(0, 12, 0, false));
        refused("portage to -1", NONE, x -> x.portage(0, 0, -1, true));
        refused("inland(2)", NONE, x -> x.inland(2));
        refused("inland(1), no water", NONE, x -> x.inland(1));
    }

    private static void waters() {
        refused("strait(2)", NONE, x -> x.strait(2, 0, 0));
        refused("strait of 12", NONE, x -> x.strait(0, 12, 0));
        refused("strait of -1", NONE, x -> x.strait(0, 0, -1));
        refused("drought(2)", NONE, x -> x.drought(2, 0, 0));
        refused("drought by 10", NONE, x -> x.drought(0, 10, 0));
        refused("drought by -1", NONE, x -> x.drought(0, -1, 6));
        refused("drought, 8", NONE, x -> x.drought(0, 0, 8));
        refused("watch(2)", NONE, x -> x.watch(2, 1, 0));
        refused("watch of 0", NONE, x -> x.watch(0, 0, 0));
        refused("watch of 4", NONE, x -> x.watch(0, 4, 0));
        refused("watch, 4", NONE, x -> x.watch(0, 3, 4));
        refused("watch of fewer", NONE, x -> x.watch(0, 1, 2));
        refused("moored(2)", NONE, x -> x.moored(2, true));
        refused("moored(-1)", NONE, x -> x.moored(-1, false));
        refused("dig(2)", NONE, x -> x.dig(2, true));
        refused("dam(2)", NONE, x -> x.dam(2, true));
        refused("dam(1), no water", NONE, x -> x.dam(1, false));
    }

    private static void routes() {
        refused("route(2)", -2, x -> x.route(2, NONE, 0));
        refused("route(0, 2)", -2, x -> x.route(0, 2, 0));
        refused("route(0, -2)", -2, x -> x.route(0, -2, 0));
        refused("route(0, NONE, 3)", -2, x -> x.route(0, NONE, 3));
        refused("route(0, 0, 2)", -2, x -> x.route(0, 0, 2));
        refused("at(2)", NONE, x -> x.at(2, 0, 0));
        refused("at of route 2", NONE, x -> x.at(0, 2, 0));
        refused("at 1000", NONE, x -> x.at(0, 0, 1000));
        refused("at -1", NONE, x -> x.at(0, 0, -1));
        refused("meet(2)", -2, x -> x.meet(2, 0, 1, 9, 0));
        refused("meet of 2", -2, x -> x.meet(0, 2, 1, 9, 0));
        refused("meet with -1", -2, x -> x.meet(0, 0, -1, 9, 0));
        refused("meet in 0", -2, x -> x.meet(0, 0, 1, 0, 0));
        refused("meet in 1000", -2, x -> x.meet(0, 0, 1, 1000, 0));
        refused("meet, 5", -2, x -> x.meet(0, 0, 1, 9, 5));
        refused("meet, -1", -2, x -> x.meet(0, 0, 1, 9, -1));
        refused("soaked(2)", NONE, x -> x.soaked(2, 0, 9, true));
        refused("soaked of 2", NONE, x -> x.soaked(0, 2, 9, true));
        refused("soaked in 0", NONE, x -> x.soaked(0, 0, 0, false));
        refused("soaked in 1000", NONE, x -> x.soaked(0, 0, 1000, false));
    }

    private static void sights() {
        refused("sight(2)", -2, x -> x.sight(2, NONE, 0));
        refused("sight(0, 1)", -2, x -> x.sight(0, 1, 0));
        refused("sight(0, NONE, 3)", -2, x -> x.sight(0, NONE, 3));
        refused("sight(0, 0, 4)", -2, x -> x.sight(0, 0, 4));
        refused("walks(2)", NONE, x -> x.walks(2, 0, 5, NONE));
        refused("walks of sight 2", NONE, x -> x.walks(0, 2, 5, NONE));
        refused("walks of 13", NONE, x -> x.walks(0, 0, 13, NONE));
        refused("walks of -1", NONE, x -> x.walks(0, 0, -1, NONE));
        refused("walks to 12", NONE, x -> x.walks(0, 0, 5, 12));
        refused("walks to -2", NONE, x -> x.walks(0, 0, 5, -2));
        refused("walks where a column is not there", NONE, x -> x.walks(1, 0, 5, NONE));
        refused("sure(2)", NONE, x -> x.sure(2, 0, 5, 0));
        refused("sure of sight 2", NONE, x -> x.sure(0, 2, 5, 0));
        refused("sure in 13", NONE, x -> x.sure(0, 0, 13, 0));
        refused("sure of 6 in 5", NONE, x -> x.sure(0, 0, 5, 6));
        refused("sure of -2", NONE, x -> x.sure(0, 0, 5, -2));
        refused("ask where a column is not there", NONE, x -> x.sure(1, 0, 5, NONE));
    }

    private static void images() {
        refused("image(3)", 0, x -> yes(x.image(3)));
        refused("image(-1)", 0, x -> yes(x.image(-1)));
        refused("again(0)", 0, x -> yes(x.again(0)));
        refused("again(2)", 0, x -> yes(x.again(2)));
        refused("again(3)", 0, x -> yes(x.again(3)));
        refused("again(-1)", 0, x -> yes(x.again(-1)));
        refused("image(2) and again", 1, x -> yes(x.image(2) && x.again(2)));
        for (int k : new int[] {-1, 0, 2, 3}) {
            FerryLand x = Lands.full();
            FerryLand y = Lands.full();
            Due.due("again " + k, x.again(k), false);
            Due.due("image 3", x.image(3), false);
            Due.due("image 1 is as it was", x.again(1), true);
            Due.due("image 1", y.again(1), true);
            Twin.same("image 1 behind again " + k, x, y, 0);
        }
    }

    /** No question changes what is told. */
    private static void questions() {
        refused("fault", 2, x -> x.fault(0));
        refused("place", 6, x -> x.fault(1));
        refused("count", 2, x -> x.count(3));
        refused("land", 4, x -> x.land(0, 3));
        refused("cell", 9, x -> x.cell(0, 6, false));
        refused("deed", 5, x -> x.deed(0, 13, 1));
        refused("stop", 14, x -> x.stop(0, 0));
        refused("state", 4, x -> x.state(0, 0, 14, 2));
        refused("errand", 3, x -> x.errand(0, 1, 0, 3));
        refused("free", 12, x -> x.free(0, 0, 0, 99));
        refused("relay", 2, x -> x.relay(0, 2, 0, 3));
        refused("strait", 5, x -> x.strait(0, 1, 9));
        refused("drought", 32, x -> x.drought(0, 4, 7));
        refused("watch", 4, x -> x.watch(0, 3, 3));
        refused("moored", 0b010011, x -> x.moored(0, true));
        refused("route", 3, x -> x.route(0, 0, 1));
        refused("at", 3, x -> x.at(0, 0, 2));
        refused("meet", 0, x -> x.meet(0, 0, 1, 2, 0));
        refused("soaked", 2, x -> x.soaked(0, 0, 2, true));
        refused("sight", 2, x -> x.sight(0, 0, 1));
        refused("walks", 1, x -> x.walks(0, 0, 0, 1));
        refused("sure", 1, x -> x.sure(0, 0, 5, 0));
        refused("drawn", 7, x -> x.drawn(0, 5, 0, 2));
        refused("portage", 7, x -> x.portage(0, 0, 3, true));
        refused("dig", 9, x -> x.dig(0, true));
        refused("dam", 2, x -> x.dam(0, true));
        refused("inland", 1, x -> x.inland(0));
    }

    private static void refusedFeeds() {
        for (int bytes : new int[] {581, 600}) {
            FerryLand x = Lands.full();
            FerryLand y = Lands.full();
            for (FerryLand one : new FerryLand[] {x, y}) {
                one.end(0);
                Due.type(one, " ".repeat(bytes - 8) + "level 7;");
            }
            Due.due("a feed behind " + bytes, x.feed(-1, 0, 1, 2, 3), NONE);
            Due.due("a feed behind " + bytes, x.feed(-1, 0, 1, 2, 3), NONE);
            Twin.same("behind a refused feed", x, y, bytes);
        }
    }

    /** Of an object that has nothing, too. */
    private static void refusedBeforeAnything() {
        FerryLand x = new FerryLand();
        x.end(1);
        x.text(0, 0);
        x.text(-1, NONE);
        x.image(3);
        x.again(0);
        x.land(0, 0);
        x.state(0, 0, 0, 0);
        x.errand(0, 0, 0, 0);
        x.watch(0, 3, 0);
        x.meet(0, 0, 0, 1, 0);
        x.walks(0, 0, 0, NONE);
        Twin.same("nothing told", x, new FerryLand(), 0);
    }
}
