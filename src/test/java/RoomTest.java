import java.lang.management.ManagementFactory;
import java.util.Random;

/** Random calls: none ends by an exception, all of one run stay in a small room, and the same calls answer the same. */
public final class RoomTest {
    private static final Random RANDOM = new Random(512);
    private static final int CALLS = 512;
    /** How many calls the object of a run still has. */
    private static int left = 0;
    private static final String[] TEXTS = {
        Lands.CAPE, Lands.DRY, Lands.WIDE, "size 8 8;hour 60;afloat 20;man 0 0;child 7 7;sleeper 3 3;man 1 1;child 2 2;", "go 0 1;work 0;moor 1;level 3;",
        "from 3 3;leg 1 20;leg 2 20;", "from 1 1;leg 0 1;leg 1 1;leg 2 1;leg 3 1;", "from 2 2;seen 3 1 1;not 4 2 2;", "not 12 0 0;", "size 1 1;", "?", ""};

    public static void main(String[] args) {
        com.sun.management.ThreadMXBean threads = (com.sun.management.ThreadMXBean) ManagementFactory.getThreadMXBean();
        long id = Thread.currentThread().getId();
        for (int run = 0; run < 150; run++) {
            long seed = RANDOM.nextLong();
            long before = threads.getThreadAllocatedBytes(id);
            long first = run(new Random(seed));
            long room = threads.getThreadAllocatedBytes(id) - before;
            Due.due("run " + run + " again", run(new Random(seed)), first);
            // The harness itself makes texts' bytes and argument arrays.
            Due.due("room of run " + run + ": " + room + " bytes", run > 20 && room > 1500000, false);
        }
        Due.finish("RoomTest");
    }

    private static long run(Random random) {
        FerryLand x = new FerryLand();
        long answers = 0;
        left = CALLS;
        while (left > 0) {
            answers = answers * 31 + call(x, random);
        }
        return answers;
    }

    private static int any(Random random) {
        switch (random.nextInt(8)) {
            case 0:
                return Lands.ODD[random.nextInt(Lands.ODD.length)];
            case 1:
                return random.nextInt(64);
            case 2:
                return -1;
            case 3:
                return random.nextInt(13);
            default:
                return random.nextInt(2);
        }
    }

    private static long call(FerryLand x, Random random) {
        int a = any(random);
        int b = any(random);
        int c = any(random);
        int d = any(random);
        int e = any(random);
        boolean f = random.nextBoolean();
        int which = random.nextInt(42);
        if (which > 31) {
            int text = random.nextInt(TEXTS.length);
            left -= 1 + Many.callsOf(TEXTS[text]);
            if (left < 0) {
                return 0;
            }
            x.end(0);
            Due.type(x, TEXTS[text]);
            int sort = text < 4 ? 0 : text == 4 ? 1 : text < 7 ? 2 : text < 9 ? 3 : random.nextInt(4);
            return x.text(sort, random.nextInt(3) - 1);
        }
        left--;
        return which < 16 ? firstHalf(x, which, a, b, c, d, e, f) : secondHalf(x, which, a, b, c, d, e, f);
    }

    private static long firstHalf(FerryLand x, int which, int a, int b, int c, int d, int e, boolean f) {
        switch (which) {
            case 0: return x.feed(a, b, c, d, e);
            case 1: return x.end(a);
            case 2: return x.text(a, b);
            case 3: return x.fault(a);
            case 4: return x.land(a, b);
            case 5: return x.cell(a, b, f);
            case 6: return x.deed(a, b, c);
            case 7: return x.stop(a, b);
            case 8: return x.state(a, b, c, d);
            case 9: return x.errand(a, b, c, d);
            case 10: return x.free(a, b, c, d);
            case 11: return x.relay(a, b, c, d);
            case 12: return x.strait(a, b, c);
            case 13: return x.drought(a, b, c);
            case 14: return x.watch(a, b, c);
            default: return x.moored(a, f);
        }
    }

    private static long secondHalf(FerryLand x, int which, int a, int b, int c, int d, int e, boolean f) {
        switch (which) {
            case 16: return x.route(a, b, c);
            case 17: return x.at(a, b, c);
            case 18: return x.meet(a, b, c, d, e);
            case 19: return x.soaked(a, b, c, f);
            case 20: return x.sight(a, b, c);
            case 21: return x.walks(a, b, c, d);
            case 22: return x.sure(a, b, c, d);
            case 23: return x.drawn(a, b, c, d);
            case 24: return x.portage(a, b, c, f);
            case 25: return x.dig(a, f);
            case 26: return x.dam(a, f);
            case 27: return x.inland(a);
            case 28: return x.count(a);
            case 29: return x.image(a) ? 1 : 0;
            default: return x.again(a) ? 1 : 0;
        }
    }
}
