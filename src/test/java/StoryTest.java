import java.util.ArrayList;
import java.util.Arrays;
import java.util.List;
import java.util.Random;

/** Random stories of texts, faults and images: what stands in the end is as if that alone had been told to a new object. */
public final class StoryTest {
    private static final int NONE = Due.NONE;
    private static final Random RANDOM = new Random(20261119);
    /** Twin asks some 170 calls of each. */
    private static final int CALLS = 512 - 180;
    private static final String[][] TEXTS = {
        {Lands.CAPE, Lands.DRY, Lands.WIDE, Lands.SEA, "size 4 4;hour 5;row 1 1 1 1 1;work 1 1 4;child 1 1;"},
        {"go 0 1;work 0;moor 1;level 3;", "wait 0;", "", "level 9;moor 0;moor 1;", "wait 0;".repeat(40)},
        {"from 3 2;leg 1 20;leg 2 20;", "leg 4 1;", "", "from 1 1;leg 0 1;leg 1 1;leg 2 1;leg 3 1;"},
        {"from 1 1;seen 3 1 1;not 4 2 1;", "not 12 0 0;", "", "seen 0 0 0;seen 1 0 0;"},
    };
    /** Of each sort: texts with each FAULT, and its place. */
    private static final String[][] BAD = {
        {"?", "size 9 2;", "row 0 1 1 1 1 1 1 1 1 1;", "row 6;", "level"},
        {"go 0;", "go 5 0;", "wait 0;".repeat(41)},
        {"leg 1 2", "leg 0 21;", "leg 1 1;".repeat(11)},
        {"seen 1;", "from 8 8;", "not 1 1 1;".repeat(11)},
    };
    private static final int[][] FAULTS = {{1, 2, 3, 4, 1}, {1, 2, 3}, {1, 2, 3}, {1, 2, 3}};
    private static final int[][] FAULT_PLACES = {{0, 5, 22, 6, 5}, {4, 3, 280}, {7, 6, 80}, {6, 5, 100}};

    /** What stands: of each sort its texts, the tape, the FAULT, and the text that had it. */
    private static final class Standing {
        final List<List<String>> texts = new ArrayList<>();
        String tape = "";
        int fault = 0;
        int place = NONE;
        int badSort = NONE;
        String bad = "";

        Standing() {
            for (int sort = 0; sort < 4; sort++) {
                texts.add(new ArrayList<>());
            }
        }

        Standing copy() {
            Standing copy = new Standing();
            for (int sort = 0; sort < 4; sort++) {
                copy.texts.get(sort).addAll(texts.get(sort));
            }
            copy.tape = tape;
            copy.setFault(fault, place, badSort, bad);
            return copy;
        }

        void setFault(int number, int where, int sort, String text) {
            fault = number;
            place = where;
            badSort = sort;
            bad = text;
        }

        FerryLand told() {
            FerryLand x = new FerryLand();
            for (int sort = 0; sort < 4; sort++) {
                for (String text : texts.get(sort)) {
                    Due.tell(x, sort, NONE, text);
                }
            }
            if (fault == 0) {
                x.text(4, NONE);
            } else {
                // In the place of one, as there may be two already.
                Due.tell(x, badSort, texts.get(badSort).isEmpty() ? NONE : 0, bad);
            }
            Due.type(x, tape);
            return x;
        }
    }

    private static Standing now;
    private static Standing[] images;
    private static FerryLand x;
    private static int used;

    public static void main(String[] args) {
        for (int run = 0; run < 2000; run++) {
            now = new Standing();
            images = new Standing[3];
            x = new FerryLand();
            used = 0;
            int steps = 1 + RANDOM.nextInt(run % 2 == 0 ? 12 : 60);
            for (int i = 0; i < steps && used < CALLS - 40; i++) {
                step();
            }
            Twin.same("story " + run, x, now.told(), now.tape.length());
        }
        Due.finish("StoryTest");
    }

    private static void step() {
        int which = RANDOM.nextInt(12);
        if (which < 5) {
            tell(RANDOM.nextInt(4), RANDOM.nextInt(4) - 1, RANDOM.nextInt(5) == 0);
        } else if (which < 7) {
            image(RANDOM.nextInt(4));
        } else if (which < 9) {
            again(RANDOM.nextInt(4));
        } else if (which < 10) {
            refused();
        } else {
            tape();
        }
    }

    private static void tell(int sort, int at, boolean bad) {
        int which = RANDOM.nextInt(bad ? BAD[sort].length : TEXTS[sort].length);
        String text = bad ? BAD[sort][which] : TEXTS[sort][which];
        x.end(0);
        used += 1 + Many.callsOf(text);
        int got = Due.tell(x, sort, at, text);
        now.tape = "";
        List<String> texts = now.texts.get(sort);
        boolean further = at == NONE && texts.size() < 2;
        if (!further && (at < 0 || at >= texts.size())) {
            Due.due("refused " + at + " of " + texts.size(), got, -2);
            now.setFault(0, NONE, NONE, "");
        } else if (bad) {
            Due.due("bad " + text, got, NONE);
            now.setFault(FAULTS[sort][which], FAULT_PLACES[sort][which], sort, text);
        } else {
            Due.due("told " + text, got, further ? texts.size() : at);
            now.setFault(0, NONE, NONE, "");
            if (further) {
                texts.add(text);
            } else {
                texts.set(at, text);
            }
        }
        standing();
    }

    private static void image(int k) {
        used++;
        Due.due("image " + k, x.image(k), k < 3);
        if (k < 3) {
            images[k] = now.copy();
        }
        standing();
    }

    private static void again(int k) {
        used++;
        boolean there = k < 3 && images[k] != null;
        Due.due("again " + k, x.again(k), there);
        if (there) {
            now = images[k].copy();
        }
        standing();
    }

    /** Of a sort that there is none of; and a tape that can't be cut. */
    private static void refused() {
        used += 2;
        Due.due("cut behind its end", x.end(now.tape.length() + 1), NONE);
        Due.due("no such sort", x.text(RANDOM.nextBoolean() ? 4 : -1, RANDOM.nextInt(3) - 1), -2);
        now.tape = "";
        now.setFault(0, NONE, NONE, "");
        standing();
    }

    private static void tape() {
        if (RANDOM.nextInt(3) == 0) {
            int n = RANDOM.nextInt(now.tape.length() + 1);
            used++;
            Due.due("cut", x.end(n), n);
            now.tape = now.tape.substring(0, n);
            return;
        }
        used++;
        int has = now.tape.length() + 20;
        boolean hour = RANDOM.nextBoolean();
        int got = hour ? x.feed(0x686f7572, 0x2031343b, 0x776f726b, 0x20303b20, 0x0a202020)
            : x.feed(0x6c657665, 0x6c20373b, 0x77616974, 0x20303b20, 0x0a6c6567);
        Due.due("fed", got, has > 600 ? NONE : has);
        if (has <= 600) {
            now.tape = now.tape + (hour ? "hour 14;work 0; \n   " : "level 7;wait 0; \nleg");
        }
    }

    private static void standing() {
        used += 6;
        Due.due("fault", x.fault(0), now.fault);
        Due.due("its place", x.fault(1), now.place);
        int[] counts = new int[4];
        for (int sort = 0; sort < 4; sort++) {
            counts[sort] = x.count(sort);
        }
        int[] want = now.texts.stream().mapToInt(List::size).toArray();
        Due.due("counts " + Arrays.toString(counts), Arrays.equals(counts, want), true);
    }
}
