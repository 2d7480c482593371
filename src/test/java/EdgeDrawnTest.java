import java.util.Arrays;

/** Promise 25 with Term 5, sentence by sentence: at each bound, below and above it. */
public final class EdgeDrawnTest {
    private static final int NONE = Due.NONE;
    private static final int CELL = 10;
    private static final int CLOCK = 20;
    private static final int[] SEEDS = {0, 1, -1, 2, 4711, 65535, 65536, Integer.MIN_VALUE, Integer.MAX_VALUE, 1103515245, -12345};

    public static void main(String[] args) {
        drawnByHand();
        timesAtTheBounds();
        ofEachCrowd();
        whatMayNotIsLeftOut();
        clocksOf99();
        numbersOfWhat();
        nobody();
        noSuchLand();
        theLandStaysAsTold();
        Due.finish("EdgeDrawnTest");
    }

    /** A number below n: x of 32 bits, shifted without sign. */
    private static int draw(long[] x, int n) {
        x[0] = (x[0] * 1103515245L + 12345L) & 0xffffffffL;
        return (int) ((x[0] >> 16) % n);
    }

    private static Model model(int people, int afloat) {
        Model m = new Model();
        m.wide = 4;
        m.high = 3;
        m.height = new int[][] {{0, 5, 5, 0}, {0, 5, 9, 0}, {0, 0, 0, 0}};
        m.work = new int[][] {{0, 20, 20, 0}, {20, 20, 20, 0}, {0, 0, 0, 0}};
        m.hour = 2;
        m.afloat = afloat;
        for (int p = 0; p < people; p++) {
            m.people.add(new int[] {p % 3, 1 + p % 2, p / 2 % 2});
        }
        return m;
    }

    /** The very first draws, worked out by hand: x is 12345, then 0xd3dc167e. */
    private static void drawnByHand() {
        // 0xd3dc remainder 8 is 4: work; the man has work on soil.
        FerryLand x = Due.with("size 3 3;row 1 0 9;work 1 1 5;man 1 1;", null);
        Due.due("one of seed 0: work", x.drawn(0, 0, 1, 2), 4);
        Due.due("one of seed 0: work", x.drawn(0, 0, 1, CLOCK), 1);
        Due.due("none of seed 0", x.drawn(0, 0, 0, 2), 5);
        Due.due("none of seed 0", x.drawn(0, 0, 0, CLOCK), 0);
    }

    private static void timesAtTheBounds() {
        FerryLand x = Due.with("size 8 8;man 4 4;", null);
        for (int n : new int[] {-2, -1, 61, 62, 100, Integer.MIN_VALUE, Integer.MAX_VALUE}) {
            Due.due(n + " times", x.drawn(0, 1, n, 0), -2);
            Due.due(n + " times", x.drawn(0, 1, n, CELL), -2);
            Due.due("behind a refused one", x.drawn(0, 1, 0, CELL), 36);
        }
        Model m = model(1, 0);
        FerryLand y = Due.with(m.text(), null);
        for (int n : new int[] {0, 1, 2, 59, 60}) {
            m.drift(99, n);
            for (int what = 0; what < 60; what++) {
                Due.due(n + " times, " + what, y.drawn(0, 99, n, what), m.asked(what));
            }
        }
    }

    private static void ofEachCrowd() {
        for (int people = 1; people < 6; people++) {
            for (int seed : SEEDS) {
                Model m = model(people, 2);
                FerryLand x = Due.with(m.text(), null);
                for (int n : new int[] {1, 7, 60}) {
                    m.drift(seed, n);
                    for (int what = 0; what < 60; what++) {
                        Due.due("seed " + seed + ", " + people + " people, " + n + " times: " + what, x.drawn(0, seed, n, what), m.asked(what));
                    }
                }
            }
        }
    }

    /** On a sea of two by two without minutes to moor: half of the steps are over the edge, no work can be. */
    private static void whatMayNotIsLeftOut() {
        for (int seed : SEEDS) {
            FerryLand x = Due.with("size 2 2;work 0 0 20;work 1 0 20;work 0 1 20;work 1 1 20;afloat 0;man 0 0;", null);
            long[] drawing = {seed};
            int column = 0;
            int row = 0;
            int clock = 0;
            for (int n = 1; n <= 60; n++) {
                Due.due("person 0 of one", draw(drawing, 1), 0);
                int number = draw(drawing, 8);
                boolean[] may = {row == 1, column == 0, row == 0, column == 1, false, false, true, false};
                if (may[number]) {
                    clock++;
                    row += number == 0 ? -1 : number == 2 ? 1 : 0;
                    column += number == 1 ? 1 : number == 3 ? -1 : 0;
                }
                Due.due("cell behind " + n, x.drawn(0, seed, n, CELL), row * 2 + column);
                Due.due("clock behind " + n, x.drawn(0, seed, n, CLOCK), clock);
                Due.due("no work behind " + n, x.drawn(0, seed, n, 2), 80);
            }
        }
    }

    /** Moorings of 20 minutes soon fill the clock: what would pass 99 is left out, shorter ones still may be. */
    private static void clocksOf99() {
        boolean full = false;
        for (int seed : SEEDS) {
            FerryLand x = Due.with("size 8 8;afloat 20;man 4 4;", null);
            long[] drawing = {seed};
            int clock = 0;
            int[] cell = {4, 4};
            for (int n = 1; n <= 60; n++) {
                draw(drawing, 1);
                int number = draw(drawing, 8);
                int minutes = number == 7 ? 20 : 1;
                int[] to = {cell[0] + new int[] {0, 1, 0, -1, 0, 0, 0, 0}[number], cell[1] + new int[] {-1, 0, 1, 0, 0, 0, 0, 0}[number]};
                boolean there = Arrays.stream(to).allMatch(i -> i >= 0 && i < 8);
                if (number != 4 && number != 5 && there && clock + minutes <= 99) {
                    clock += minutes;
                    cell = to;
                }
                full |= clock == 99;
                Due.due("seed " + seed + ": clock behind " + n, x.drawn(0, seed, n, CLOCK), clock);
                Due.due("seed " + seed + ": cell behind " + n, x.drawn(0, seed, n, CELL), cell[1] * 8 + cell[0]);
            }
        }
        Due.due("some clock came to 99", full, true);
    }

    private static void numbersOfWhat() {
        StringBuilder people = new StringBuilder();
        for (int many = 1; many < 6; many++) {
            people.append("man 1 1;");
            FerryLand x = Due.with("size 2 2;level 6;" + people, null);
            for (int what = -2; what < 70; what++) {
                int want = -2;
                if (what >= 0 && what < 4) {
                    want = what == 0 ? 6 : 0;
                } else if (what >= 10 && what < 60 && what % 10 < many) {
                    want = what < 20 ? 3 : 0;
                }
                Due.due("what " + what + ", people " + many, x.drawn(0, 5, 0, what), want);
            }
            for (int what : new int[] {Integer.MIN_VALUE, -100, 100, Integer.MAX_VALUE}) {
                Due.due("what " + what, x.drawn(0, 5, 0, what), -2);
            }
        }
    }

    private static void nobody() {
        FerryLand x = Due.with("size 2 2;", null);
        for (int n : new int[] {-1, 0, 1, 60, 61}) {
            for (int what : new int[] {-1, 0, 1, 2, 3, 10}) {
                Due.due("no people, " + n + " times", x.drawn(0, 1, n, what), -2);
            }
        }
        Due.due("one", Due.tell(x, 0, 0, "size 2 2;man 0 0;"), 0);
        Due.due("one", x.drawn(0, 1, 0, 0), 0);
    }

    private static void noSuchLand() {
        for (int many = 0; many < 3; many++) {
            FerryLand x = new FerryLand();
            for (int i = 0; i < many; i++) {
                Due.due("land", Due.tell(x, 0, NONE, "level " + i + ";man 0 0;"), i);
            }
            for (int land : new int[] {-2, -1, 0, 1, 2, 3, Integer.MIN_VALUE, Integer.MAX_VALUE}) {
                Due.due("land " + land + " of " + many, x.drawn(land, 7, 3, 0), land >= 0 && land < many ? land : -2);
            }
        }
    }

    private static void theLandStaysAsTold() {
        Model m = model(5, 1);
        FerryLand x = Due.with(m.text(), null);
        m.drift(77, 60);
        Due.due("all work left", x.drawn(0, 77, 60, 2), m.asked(2));
        Due.due("some work is done", m.asked(2) < 100, true);
        Due.due("work as told", x.cell(0, 1, true), 20);
        Due.due("cell as told", x.land(0, 20), 1);
        Due.due("all work as told", x.drawn(0, 77, 0, 2), 100);
    }
}
