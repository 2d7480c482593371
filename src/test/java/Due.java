import java.nio.charset.StandardCharsets;

/** Counts answers against those that are due, and tells texts. */
final class Due {
    static final int NONE = FerryLand.NONE;

    private static int right = 0;
    private static int wrong = 0;

    private Due() {
    }

    static void due(String call, long got, long want) {
        if (got == want) {
            right++;
            return;
        }
        wrong++;
        if (wrong <= 50) {
            System.out.println(call + " answered " + got + ", due is " + want);
        }
    }

    static void due(String call, boolean got, boolean want) {
        due(call, got ? 1 : 0, want ? 1 : 0);
    }

    /** Puts a text behind what the tape has. */
    static void type(FerryLand x, String text) {
        type(x, text.getBytes(StandardCharsets.ISO_8859_1));
    }

    static void type(FerryLand x, byte[] text) {
        for (int at = 0; at < text.length; at += 20) {
            int[] five = new int[5];
            for (int i = 0; i < 20; i++) {
                int sign = at + i < text.length ? text[at + i] & 255 : 32;
                five[i / 4] = five[i / 4] << 8 | sign;
            }
            int has = x.feed(five[0], five[1], five[2], five[3], five[4]);
            int more = Math.max(at + 20 - text.length, 0);
            if (more > 0) {
                x.end(has - more);
            }
        }
    }

    static int tell(FerryLand x, int sort, int at, String text) {
        type(x, text);
        return x.text(sort, at);
    }

    /** A new object with a land, a day if it is not null, and routes. */
    static FerryLand with(String land, String day, String... routes) {
        FerryLand x = new FerryLand();
        due("land " + land, tell(x, 0, NONE, land), 0);
        if (day != null) {
            due("day " + day, tell(x, 1, NONE, day), 0);
        }
        for (int i = 0; i < routes.length; i++) {
            due("route " + routes[i], tell(x, 2, NONE, routes[i]), i);
        }
        return x;
    }

    /** A new object with a land and sights. */
    static FerryLand withSights(String land, String... sights) {
        FerryLand x = with(land, null);
        for (int i = 0; i < sights.length; i++) {
            due("sight " + sights[i], tell(x, 3, NONE, sights[i]), i);
        }
        return x;
    }

    static void finish(String name) {
        System.out.println(name + ": " + right + " right, " + wrong + " wrong");
        if (wrong != 0) {
            System.exit(1);
        }
    }
}
