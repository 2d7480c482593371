import java.util.ArrayList;
import java.util.Collections;
import java.util.List;
import java.util.Random;
import java.util.function.ToLongFunction;

/** What is answered is so by what is told alone: not by what was asked, told or refused before. */
public final class OrderTest {
    private static final int NONE = Due.NONE;
    private static final String[][] TEXTS = {
        {Lands.CAPE + "afloat 1;man 2 2;", "size 8 8;row 0 9 0 9 0 9 0 9 0;row 3 1 2 3 4 5 6 7 8;row 7 0 9 0 9 0 9 0 9;level 2;hour 6;work 7 3 9;work 0 0 5;man 7 7;child 0 0;"},
        {"go 0 1;go 0 1;work 0;work 0;work 0;go 0 1;wait 0;wait 0;go 1 3;go 1 3;moor 1;level 5;moor 0;work 0;", "level 9;wait 0;wait 1;level 0;wait 0;work 1;"},
        {"leg 1 3;leg 3 3;", "from 3 0;leg 3 3;leg 1 3;"},
        {"from 1 0;not 2 2 0;seen 5 0 0;", "from 3 2;not 1 3 2;"},
    };
    private static final List<ToLongFunction<FerryLand>> QUESTIONS = new ArrayList<>();

    public static void main(String[] args) {
        list();
        List<Long> due = new ArrayList<>();
        for (ToLongFunction<FerryLand> question : QUESTIONS) {
            due.add(question.applyAsLong(told()));
        }
        List<Integer> order = new ArrayList<>();
        for (int i = 0; i < QUESTIONS.size(); i++) {
            order.add(i);
        }
        ask("in their order", order, due);
        Collections.reverse(order);
        ask("the other way round", order, due);
        Random random = new Random(9);
        for (int i = 0; i < 40; i++) {
            Collections.shuffle(order, random);
            ask("shuffled " + i, order, due);
        }
        twice(due);
        landsAfterLands();
        scriptsAfterScripts();
        Due.finish("OrderTest");
    }

    private static FerryLand told() {
        FerryLand x = new FerryLand();
        for (int sort = 0; sort < 4; sort++) {
            for (int i = 0; i < 2; i++) {
                Due.due(TEXTS[sort][i], Due.tell(x, sort, NONE, TEXTS[sort][i]), i);
            }
        }
        return x;
    }

    private static void ask(String name, List<Integer> order, List<Long> due) {
        FerryLand x = told();
        for (int i : order) {
            Due.due("question " + i + " " + name, QUESTIONS.get(i).applyAsLong(x), due.get(i));
        }
    }

    /** Each one behind each other one. */
    private static void twice(List<Long> due) {
        for (int i = 0; i < QUESTIONS.size(); i++) {
            FerryLand x = told();
            for (int k = 0; k < QUESTIONS.size(); k++) {
                QUESTIONS.get(i).applyAsLong(x);
                Due.due("question " + k + " behind " + i, QUESTIONS.get(k).applyAsLong(x), due.get(k));
            }
        }
    }

    private static void list() {
        for (int i = 0; i < 2; i++) {
            int land = i;
            for (int j = 0; j < 2; j++) {
                int other = j;
                for (int what : new int[] {1, 2, 3, 10, 30}) {
                    QUESTIONS.add(x -> x.state(land, other, 4, what));
                }
                QUESTIONS.add(x -> x.stop(land, other));
                QUESTIONS.add(x -> x.at(land, other, 7));
                QUESTIONS.add(x -> x.soaked(land, other, 9, true));
                QUESTIONS.add(x -> x.soaked(land, other, 9, false));
                QUESTIONS.add(x -> x.walks(land, other, 6, NONE));
                QUESTIONS.add(x -> x.walks(land, other, 4, 11));
                QUESTIONS.add(x -> x.sure(land, other, 5, 4));
                QUESTIONS.add(x -> x.sure(land, other, 6, NONE));
                QUESTIONS.add(x -> x.errand(land, other, 1, 11));
                QUESTIONS.add(x -> x.free(land, other, 3, 5));
                QUESTIONS.add(x -> x.relay(land, 2, other, 3));
                for (int n = 1; n < 5; n += 3) {
                    int minutes = n;
                    for (int what = 0; what < 5; what++) {
                        int asked = what;
                        QUESTIONS.add(x -> x.meet(land, 0, other, minutes, asked));
                    }
                }
            }
            QUESTIONS.add(x -> x.relay(land, 2, 0, 2));
            QUESTIONS.add(x -> x.strait(land, 1, 11));
            QUESTIONS.add(x -> x.drought(land, 3, 4));
            QUESTIONS.add(x -> x.drought(land, 3, 6));
            QUESTIONS.add(x -> x.watch(land, 1, 2));
            QUESTIONS.add(x -> x.watch(land, 3, 3));
            QUESTIONS.add(x -> x.moored(land, true));
            QUESTIONS.add(x -> x.drawn(land, 17, 60, 2));
            QUESTIONS.add(x -> x.drawn(land, 17, 9, 30));
            QUESTIONS.add(x -> x.portage(land, 1, 11, true));
            QUESTIONS.add(x -> x.dig(land, false));
            QUESTIONS.add(x -> x.dam(land, true));
            QUESTIONS.add(x -> x.inland(land));
        }
    }

    /** The same questions of an object that was told another land before in that place, and of one that was not. */
    private static void landsAfterLands() {
        for (int before = 0; before < 49; before++) {
            for (int after = 0; after < 49; after++) {
                String text = "size " + (2 + after % 7) + " " + (2 + after / 7) + ";row 0 0 9;";
                FerryLand x = Due.with(crowded(before), null);
                Due.due(text, Due.tell(x, 0, 0, text), 0);
                same(text + " behind " + crowded(before), x, Due.with(text, null));
            }
            String[] plain = {"", "row 3 1 2;", "level 1;", "man 5 5;"};
            for (String text : plain) {
                FerryLand x = Due.with(crowded(before), null);
                Due.due(text, Due.tell(x, 0, 0, text), 0);
                same(text + " behind " + crowded(before), x, Due.with(text, null));
                // Also behind one with a FAULT.
                FerryLand y = new FerryLand();
                Due.due("a fault", Due.tell(y, 0, NONE, crowded(before) + "level 10;"), NONE);
                Due.due(text, Due.tell(y, 0, NONE, text), 0);
                same(text + " behind a fault", y, Due.with(text, null));
                FerryLand z = new FerryLand();
                Due.due("a fault", Due.tell(z, 0, NONE, crowded(before) + "level"), NONE);
                Due.due(text, Due.tell(z, 0, NONE, text), 0);
                same(text + " behind no text", z, Due.with(text, null));
            }
        }
    }

    /** A land in which nothing is as at first. */
    private static String crowded(int size) {
        int wide = 2 + size % 7;
        int high = 2 + size / 7;
        StringBuilder text = new StringBuilder("size " + wide + " " + high + ";level 4;hour 33;afloat 7;");
        for (int row = 0; row < high; row++) {
            text.append("row ").append(row);
            for (int column = 0; column < wide; column++) {
                text.append(' ').append(1 + (row * 5 + column * 3) % 9);
            }
            text.append(";work ").append(row % wide).append(' ').append(row).append(" 9;");
        }
        return text.append("child 1 1;sleeper 0 1;man 1 0;child 0 0;man 1 1;").toString();
    }

    private static void same(String name, FerryLand x, FerryLand y) {
        for (int what = 0; what < 30; what++) {
            Due.due(name + ": land " + what, x.land(0, what), y.land(0, what));
        }
        int last = y.land(0, 0) * y.land(0, 1) - 1;
        for (int cell : new int[] {0, 1, 2, y.land(0, 0), last, last + 1}) {
            Due.due(name + ": height " + cell, x.cell(0, cell, false), y.cell(0, cell, false));
            Due.due(name + ": work " + cell, x.cell(0, cell, true), y.cell(0, cell, true));
            Due.due(name + ": errand " + cell, x.errand(0, 0, 0, cell), y.errand(0, 0, 0, cell));
            Due.due(name + ": strait " + cell, x.strait(0, 0, cell), y.strait(0, 0, cell));
            Due.due(name + ": portage " + cell, x.portage(0, cell, 1, true), y.portage(0, cell, 1, true));
            Due.due(name + ": free " + cell, x.free(0, 1, cell, 2), y.free(0, 1, cell, 2));
        }
        for (int what = 0; what < 8; what++) {
            Due.due(name + ": drought " + what, x.drought(0, 5, what), y.drought(0, 5, what));
        }
        Due.due(name + ": moored", x.moored(0, true), y.moored(0, true));
        Due.due(name + ": row", x.relay(0, 0, 0, 3), y.relay(0, 0, 0, 3));
        Due.due(name + ": drawn", x.drawn(0, 3, 40, 2), y.drawn(0, 3, 40, 2));
        Due.due(name + ": dam", x.dam(0, true), y.dam(0, true));
    }

    private static void scriptsAfterScripts() {
        String[] full = {"", "go 4 3;".repeat(40), "from 7 7;" + "leg 4 20;".repeat(10), "from 7 7;" + "seen 12 7 7;".repeat(10)};
        String[] less = {"", "wait 1;", "leg 1 2;", "not 3 2 1;"};
        for (int sort = 1; sort < 4; sort++) {
            for (String bad : new String[] {"", "?"}) {
                FerryLand x = new FerryLand();
                Due.due("a full one", Due.tell(x, sort, NONE, full[sort]), 0);
                Due.due("another one in its place", Due.tell(x, sort, 0, full[sort] + bad), bad.isEmpty() ? 0 : NONE);
                Due.due("one line", Due.tell(x, sort, 0, less[sort]), 0);
                Due.due("none", Due.tell(x, sort, NONE, bad.isEmpty() ? "" : " "), 1);
                int[] heads = {x.deed(0, NONE, 0), x.route(0, NONE, 2), x.sight(0, NONE, 2)};
                int[] empty = {x.deed(1, NONE, 0), x.route(1, NONE, 2), x.sight(1, NONE, 2)};
                Due.due("lines", heads[sort - 1], 1);
                Due.due("no lines", empty[sort - 1], 0);
                Due.due("a second deed", x.deed(0, 1, 0), -2);
                Due.due("a second leg", x.route(0, 1, 0), -2);
                Due.due("a second fact", x.sight(0, 1, 0), -2);
                Due.due("column", x.route(0, NONE, 0), sort == 2 ? 0 : -2);
                Due.due("row", x.sight(0, NONE, 1), sort == 3 ? 0 : -2);
                Due.due("column of none", x.route(1, NONE, 0), sort == 2 ? 0 : -2);
                Due.due("row of none", x.sight(1, NONE, 1), sort == 3 ? 0 : -2);
            }
        }
    }
}
