import java.util.function.ToLongFunction;

/** An object is used for at most 512 calls: the 512th one is answered as the first one is. */
public final class CallsTest {
    private static final int NONE = Due.NONE;
    private static final int CALLS = 512;
    private static final String DAY = "go 0 1;go 0 1;work 0;moor 1;" + "wait 2;".repeat(36);

    public static void main(String[] args) {
        questions();
        feeds();
        texts();
        faults();
        images();
        Due.finish("CallsTest");
    }

    private static void always(String name, ToLongFunction<FerryLand> call, long want) {
        String[] texts = {Lands.CAPE, DAY, "leg 1 3;leg 3 3;", "not 2 1 0;"};
        FerryLand x = new FerryLand();
        int used = 0;
        for (int sort = 0; sort < 4; sort++) {
            Due.due(texts[sort], Due.tell(x, sort, NONE, texts[sort]), 0);
            used += Many.callsOf(texts[sort]);
        }
        for (int i = used + 1; i <= CALLS; i++) {
            Due.due(name + " as call " + i, call.applyAsLong(x), want);
        }
    }

    private static void questions() {
        always("count", x -> x.count(3), 1);
        always("fault", x -> x.fault(1), NONE);
        always("land", x -> x.land(0, 3), 4);
        always("cell", x -> x.cell(0, 2, true), 5);
        always("deed", x -> x.deed(0, 39, 1), 2);
        always("stop", x -> x.stop(0, 0), 40);
        always("state", x -> x.state(0, 0, 1, 3), 5);
        always("errand", x -> x.errand(0, 1, 0, 3), 3);
        always("free", x -> x.free(0, 0, 0, 99), 12);
        always("relay", x -> x.relay(0, 2, 1, 2), 5);
        always("strait", x -> x.strait(0, 1, 6), 9);
        always("drought", x -> x.drought(0, 4, 4), 6);
        always("watch", x -> x.watch(0, 3, 0), 4);
        always("moored", x -> x.moored(0, true), 0b010011);
        always("route", x -> x.route(0, 1, 0), 3);
        always("at", x -> x.at(0, 0, 999), 3);
        always("meet", x -> x.meet(0, 0, 0, 999, 0), 999);
        always("soaked", x -> x.soaked(0, 0, 999, true), 2);
        always("sight", x -> x.sight(0, 0, 1), 2);
        always("walks", x -> x.walks(0, 0, 1, NONE), 3);
        always("sure", x -> x.sure(0, 0, 12, 0), 0);
        always("drawn", x -> x.drawn(0, 3, 0, 2), 7);
        always("portage", x -> x.portage(0, 0, 3, true), 7);
        always("dig", x -> x.dig(0, true), 9);
        always("dam", x -> x.dam(0, true), 2);
        always("inland", x -> x.inland(0), 1);
        always("refused", x -> x.land(9, 9), NONE);
    }

    private static void feeds() {
        FerryLand x = new FerryLand();
        for (int call = 1; call <= CALLS; call++) {
            boolean last = call % 32 == 0;
            int want = call % 32 == 31 ? NONE : call % 32 * 20;
            if (last) {
                Due.due("end as call " + call, x.end(0), 0);
            } else {
                Due.due("feed as call " + call, x.feed(0, 0, 0, 0, 0), want);
            }
        }
    }

    private static void texts() {
        FerryLand x = new FerryLand();
        for (int call = 1; call <= CALLS; call++) {
            int sort = call % 4;
            int k = (call - 1) / 4;
            Due.due("text as call " + call, x.text(sort, k < 2 ? NONE : k % 2), k % 2);
        }
    }

    private static void faults() {
        FerryLand x = new FerryLand();
        for (int call = 1; call <= CALLS; call += 2) {
            Due.due("feed as call " + call, x.feed(0, 0, 0, 0, 0), 20);
            Due.due("text as call " + (call + 1), x.text(0, NONE), NONE);
        }
    }

    private static void images() {
        FerryLand x = new FerryLand();
        Due.due("image of nothing", x.image(0), true);
        for (int call = 2; call < CALLS; call += 2) {
            Due.due("text as call " + call, x.text(1, NONE), 0);
            Due.due("again as call " + (call + 1), x.again(0), true);
        }
        Due.due("again as call 512", x.again(0), true);
        FerryLand y = new FerryLand();
        for (int call = 1; call <= CALLS; call += 2) {
            Due.due("image as call " + call, y.image(call % 3), true);
            Due.due("again as call " + (call + 1), y.again(call % 3), true);
        }
    }
}
