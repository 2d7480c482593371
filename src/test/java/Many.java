import java.util.ArrayList;
import java.util.List;

/** For any number of questions: each object has its 512 calls, then a new one is told the same texts. */
final class Many {
    private static final int CALLS = 512;

    private final List<Integer> sorts = new ArrayList<>();
    private final List<Integer> places = new ArrayList<>();
    private final List<String> texts = new ArrayList<>();
    private FerryLand x = new FerryLand();
    private int used = 0;

    int tell(int sort, int at, String text) {
        if (used + callsOf(text) > CALLS) {
            renew();
        }
        sorts.add(sort);
        places.add(at);
        texts.add(text);
        return tellNow(sort, at, text);
    }

    /** The object for one question. */
    FerryLand ask() {
        if (used >= CALLS) {
            renew();
        }
        used++;
        return x;
    }

    private void renew() {
        x = new FerryLand();
        used = 0;
        for (int i = 0; i < texts.size(); i++) {
            tellNow(sorts.get(i), places.get(i), texts.get(i));
        }
    }

    private int tellNow(int sort, int at, String text) {
        used += callsOf(text);
        return Due.tell(x, sort, at, text);
    }

    /** How many calls it is to tell a text. */
    static int callsOf(String text) {
        return (text.length() + 19) / 20 + (text.length() % 20 == 0 ? 0 : 1) + 1;
    }
}
