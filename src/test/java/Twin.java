/** Two objects of which all that is told must be the same: some 170 calls of each. */
final class Twin {
    private static final int NONE = Due.NONE;

    private Twin() {
    }

    /** Both must have so many bytes on the tape; in the end it is taken, and also what it tells must be the same. */
    static void same(String name, FerryLand x, FerryLand y, int bytes) {
        for (int what = 0; what < 2; what++) {
            Due.due(name + ": fault " + what, x.fault(what), y.fault(what));
        }
        for (int sort = 0; sort < 4; sort++) {
            Due.due(name + ": count " + sort, x.count(sort), y.count(sort));
        }
        for (int i = 0; i < 2; i++) {
            land(name, x, y, i);
            scripts(name, x, y, i);
            questions(name, x, y, i);
        }
        Due.due(name + ": no more bytes", x.end(bytes + 1), NONE);
        Due.due(name + ": bytes", x.end(bytes), bytes);
        Due.due(name + ": the tape", x.text(0, 0), y.text(0, 0));
        Due.due(name + ": its fault", x.fault(0), y.fault(0));
        Due.due(name + ": its place", x.fault(1), y.fault(1));
        land(name + ": its land", x, y, 0);
    }

    private static void land(String name, FerryLand x, FerryLand y, int i) {
        for (int what = 0; what < 6; what++) {
            Due.due(name + ": land " + what, x.land(i, what), y.land(i, what));
        }
        for (int p = 0; p < 5; p++) {
            Due.due(name + ": kind " + p, x.land(i, 10 + p), y.land(i, 10 + p));
            Due.due(name + ": cell " + p, x.land(i, 20 + p), y.land(i, 20 + p));
        }
        for (int cell : new int[] {0, 1, 2, 5, 6, 11, 63}) {
            Due.due(name + ": height " + cell, x.cell(i, cell, false), y.cell(i, cell, false));
            Due.due(name + ": work " + cell, x.cell(i, cell, true), y.cell(i, cell, true));
        }
    }

    private static void scripts(String name, FerryLand x, FerryLand y, int i) {
        Due.due(name + ": deeds", x.deed(i, NONE, 0), y.deed(i, NONE, 0));
        for (int what = 0; what < 3; what++) {
            Due.due(name + ": deed " + what, x.deed(i, 0, what), y.deed(i, 0, what));
            Due.due(name + ": deed 14 " + what, x.deed(i, 14, what), y.deed(i, 14, what));
            Due.due(name + ": route " + what, x.route(i, NONE, what), y.route(i, NONE, what));
            Due.due(name + ": sight " + what, x.sight(i, NONE, what), y.sight(i, NONE, what));
            Due.due(name + ": leg " + what, x.route(i, 1, what), y.route(i, 1, what));
            Due.due(name + ": fact " + what, x.sight(i, 0, what + 1), y.sight(i, 0, what + 1));
        }
    }

    private static void questions(String name, FerryLand x, FerryLand y, int i) {
        Due.due(name + ": stop", x.stop(0, i), y.stop(0, i));
        Due.due(name + ": state", x.state(0, i, 3, 2), y.state(0, i, 3, 2));
        Due.due(name + ": errand", x.errand(i, 1, 0, 3), y.errand(i, 1, 0, 3));
        Due.due(name + ": row", x.relay(i, 0, 0, 3), y.relay(i, 0, 0, 3));
        Due.due(name + ": moored", x.moored(i, true), y.moored(i, true));
        Due.due(name + ": at", x.at(0, i, 7), y.at(0, i, 7));
        Due.due(name + ": walks", x.walks(0, i, 5, NONE), y.walks(0, i, 5, NONE));
        Due.due(name + ": drawn", x.drawn(i, 4711, 30, 10), y.drawn(i, 4711, 30, 10));
    }
}
