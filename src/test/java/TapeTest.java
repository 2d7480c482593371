/** Promises 1 to 5 and 30 to 32: the tape, texts and their faults, counts, images. */
public final class TapeTest {
    private static final int NONE = Due.NONE;
    private static final String[] PLAIN = {"size 2 3;", "wait 0;", "leg 1 2;", "seen 0 0 0;"};

    public static void main(String[] args) {
        newObject();
        feedAndEnd();
        bytesOfNumbers();
        slots();
        for (String[] row : FAULTS) {
            faulty(row);
        }
        manyLines();
        faultsFirst();
        faultAnswers();
        nothingChangesByFault();
        images();
        Due.finish("TapeTest");
    }

    private static void newObject() {
        FerryLand x = new FerryLand();
        for (int sort = 0; sort < 4; sort++) {
            Due.due("count of new", x.count(sort), 0);
        }
        Due.due("count(-1)", x.count(-1), -2);
        Due.due("count(4)", x.count(4), -2);
        for (int k = -1; k < 4; k++) {
            Due.due("again of new", x.again(k), false);
        }
        Due.due("fault of new", x.fault(0), 0);
        Due.due("fault place of new", x.fault(1), NONE);
        Due.due("end of new", x.end(1), NONE);
        Due.due("end of new", x.end(0), 0);
        Due.due("constant", FerryLand.NONE, -1);
    }

    private static void feedAndEnd() {
        FerryLand x = new FerryLand();
        for (int i = 1; i <= 30; i++) {
            Due.due("feed", x.feed(0x20202020, 0x20202020, 0x20202020, 0x20202020, 0x20202020), 20 * i);
        }
        Due.due("31st feed", x.feed(0, 0, 0, 0, 0), NONE);
        Due.due("end behind", x.end(601), NONE);
        Due.due("end below", x.end(-1), NONE);
        Due.due("end least", x.end(Integer.MIN_VALUE), NONE);
        Due.due("end all", x.end(600), 600);
        Due.due("end 581", x.end(581), 581);
        Due.due("no room for twenty", x.feed(0, 0, 0, 0, 0), NONE);
        Due.due("end 580", x.end(580), 580);
        Due.due("room for twenty", x.feed(0x20202020, 0x20202020, 0x20202020, 0x20202020, 0x20202020), 600);
        // Nothing of the refused feeds came: blanks alone are a text.
        Due.due("blanks alone", x.text(0, NONE), 0);
        Due.due("empty then", x.end(1), NONE);
        Due.due("feed again", x.feed(0, 0, 0, 0, 0), 20);
        Due.due("end none", x.end(0), 0);
        Due.due("end gone", x.end(20), NONE);
    }

    private static void bytesOfNumbers() {
        FerryLand x = new FerryLand();
        // "leve" "l 7;" with the highest byte first
        Due.due("feed", x.feed(0x6c657665, 0x6c20373b, 0x0a0a0a0a, 0x686f7572, 0x2034353b), 20);
        Due.due("text", x.text(0, NONE), 0);
        Due.due("level", x.land(0, 2), 7);
        Due.due("hour", x.land(0, 3), 45);
        Due.due("feed", x.feed(0xffffffff, 0, 0, 0, 0), 20);
        Due.due("bytes 255", x.text(0, NONE), NONE);
        Due.due("bytes 255", x.fault(0), 1);
        Due.due("bytes 255", x.fault(1), 0);
    }

    private static void slots() {
        for (int sort = 0; sort < 4; sort++) {
            FerryLand x = new FerryLand();
            Due.due("no place yet", Due.tell(x, sort, 0, PLAIN[sort]), -2);
            Due.due("empty then", x.end(1), NONE);
            Due.due("first", Due.tell(x, sort, NONE, PLAIN[sort]), 0);
            Due.due("place 1 not yet", Due.tell(x, sort, 1, PLAIN[sort]), -2);
            Due.due("in its place", Due.tell(x, sort, 0, PLAIN[sort]), 0);
            Due.due("count 1", x.count(sort), 1);
            Due.due("second", Due.tell(x, sort, NONE, ""), 1);
            Due.due("count 2", x.count(sort), 2);
            Due.due("a fault", Due.tell(x, sort, 1, "?"), NONE);
            Due.due("a fault", x.fault(0), 1);
            Due.due("third", Due.tell(x, sort, NONE, "?"), -2);
            Due.due("no text is read", x.fault(0), 0);
            Due.due("no text is read", x.fault(1), NONE);
            Due.due("place 1", Due.tell(x, sort, 1, PLAIN[sort]), 1);
            Due.due("place 2", Due.tell(x, sort, 2, PLAIN[sort]), -2);
            Due.due("place -2", Due.tell(x, sort, -2, PLAIN[sort]), -2);
            Due.due("count 2 still", x.count(sort), 2);
            for (int other = 0; other < 4; other++) {
                Due.due("other sorts", x.count(other), other == sort ? 2 : 0);
            }
        }
        FerryLand x = new FerryLand();
        Due.due("sort -1", Due.tell(x, -1, NONE, "size 2 2;"), -2);
        Due.due("tape is empty", x.end(1), NONE);
        Due.due("sort 4", Due.tell(x, 4, NONE, ""), -2);
    }

    /** Sort, fault, place, text; a fault 0 is a text that can be taken. */
    private static final String[][] FAULTS = {
        {"0", "0", "-1", ""}, {"1", "0", "-1", ""}, {"2", "0", "-1", ""}, {"3", "0", "-1", " \n "},
        // the first byte or token with which no text goes on
        {"0", "1", "0", "?"}, {"0", "1", "0", ";"}, {"0", "1", "0", "4"}, {"0", "1", "0", "Size 2 2;"},
        {"0", "1", "0", "sizes 2 2;"}, {"0", "1", "0", "siz 2 2;"}, {"0", "1", "0", "s"}, {"0", "1", "0", "go 0 1;"},
        {"0", "1", "2", "  wait 0;"}, {"0", "1", "4", "size\t2 2;"}, {"0", "1", "4", "size"}, {"0", "1", "7", "size   "},
        {"0", "1", "8", "size 2 2"}, {"0", "1", "10", "size 2 2  "}, {"0", "1", "6", "size 2;"},
        {"0", "1", "9", "size 2 2 2;"}, {"0", "1", "7", "size 2 x 2;"}, {"0", "1", "5", "size 002 2;"},
        {"0", "1", "5", "size 123 2;"}, {"0", "1", "7", "size 2 1234"}, {"0", "1", "8", "size 2 2A;"},
        {"0", "1", "8", "size 2 2row 0;"}, {"0", "1", "9", "size 2 2;;"}, {"0", "1", "9", "size 2 2;sise 2 2;"},
        {"0", "1", "4", "row ;"}, {"0", "1", "8", "row 0 1 size;"}, {"0", "1", "8", "row 0 1 -1;"},
        {"0", "1", "6", "row 0 001;"}, {"0", "1", "8", "level 1 2;"}, {"0", "1", "11", "work 0 0 1 1;"},
        {"0", "1", "8", "work 0 0;"}, {"0", "1", "5", "man 0;"}, {"0", "1", "8", "man 0 0 0;"},
        {"0", "1", "9", "sleeper 0\u00e9;"}, {"0", "1", "4", "man \u0000"},
        {"1", "1", "0", "size 2 2;"}, {"1", "1", "0", "from 0 0;"}, {"1", "1", "4", "go 0;"}, {"1", "1", "7", "go 0 1 1;"},
        {"1", "1", "7", "wait 0 0;"}, {"1", "1", "7", "moor 0 1;"}, {"1", "1", "4", "work;"}, {"1", "1", "0", "hour 3;"},
        {"2", "1", "0", "seen 0 0 0;"}, {"2", "1", "0", "legs 0 1;"}, {"2", "1", "5", "leg 0;"}, {"2", "1", "8", "leg 0 1 1;"},
        {"2", "1", "6", "from 0;"}, {"3", "1", "0", "leg 0 1;"}, {"3", "1", "8", "seen 0 0;"}, {"3", "1", "10", "not 0 0 0 0;"},
        {"3", "1", "0", "nots 0 0 0;"},
        // words and numbers side by side, blanks or none
        {"0", "0", "-1", "size2 2;level9;"}, {"0", "0", "-1", "size\n8\n8\n;\n"}, {"0", "0", "-1", "  size 08 02 ; "},
        {"0", "1", "4", "size222 2;"}, {"0", "0", "-1", "size 2 2;row0 1;"}, {"1", "0", "-1", "go0 1;wait1;level 00;"},
        // numbers that can't be
        {"0", "2", "5", "size 1 2;"}, {"0", "2", "5", "size 9 2;"}, {"0", "2", "7", "size 2 1;"}, {"0", "2", "7", "size 2 9;"},
        {"0", "0", "-1", "size 2 8;"}, {"0", "0", "-1", "size 8 2;"}, {"0", "2", "4", "row 8 0;"}, {"0", "2", "6", "row 0 10;"},
        {"0", "0", "-1", "row 5 9 0 9;"}, {"0", "0", "-1", "row 0;"}, {"0", "2", "6", "level 10;"}, {"0", "0", "-1", "level 9;level 0;"},
        {"0", "2", "5", "hour 0;"}, {"0", "2", "5", "hour 61;"}, {"0", "0", "-1", "hour 1;hour 60;"},
        {"0", "2", "7", "afloat 21;"}, {"0", "0", "-1", "afloat 20;afloat 0;"},
        {"0", "2", "5", "work 8 0 1;"}, {"0", "2", "7", "work 0 8 1;"}, {"0", "2", "9", "work 0 0 21;"}, {"0", "0", "-1", "work 5 5 20;"},
        {"0", "2", "4", "man 8 0;"}, {"0", "2", "6", "man 0 8;"}, {"0", "2", "6", "child 8 0;"}, {"0", "2", "8", "child 0 99;"},
        {"0", "2", "8", "sleeper 8 0;"}, {"0", "2", "10", "sleeper 0 8;"}, {"0", "0", "-1", "size 8 8;man 7 7;child 7 7;sleeper 0 0;"},
        {"1", "2", "3", "go 5 0;"}, {"1", "2", "5", "go 0 4;"}, {"1", "0", "-1", "go 4 3;"}, {"1", "2", "5", "work 5;"},
        {"1", "2", "5", "wait 5;"}, {"1", "2", "5", "moor 5;"}, {"1", "2", "6", "level 10;"}, {"1", "0", "-1", "work 4;wait 4;moor 4;level 9;"},
        {"2", "2", "5", "from 8 0;"}, {"2", "2", "7", "from 0 8;"}, {"2", "0", "-1", "from 7 7;"}, {"2", "2", "4", "leg 5 1;"},
        {"2", "2", "6", "leg 0 0;"}, {"2", "2", "6", "leg 0 21;"}, {"2", "0", "-1", "leg 4 20;leg 0 1;"},
        {"3", "2", "5", "from 8 0;"}, {"3", "2", "7", "from 0 8;"}, {"3", "2", "5", "seen 13 0 0;"}, {"3", "2", "7", "seen 0 8 0;"},
        {"3", "2", "9", "seen 0 0 8;"}, {"3", "2", "4", "not 13 0 0;"}, {"3", "2", "6", "not 0 8 0;"}, {"3", "2", "8", "not 0 0 8;"},
        {"3", "0", "-1", "from 7 7;seen 12 7 7;not 12 0 0;"},
        // too many of something
        {"0", "3", "40", "man 0 0;man 0 0;man 0 0;man 0 0;man 0 0;man 0 0;"},
        {"0", "3", "46", "man 0 0;child 0 0;man 0 0;sleeper 0 0;man 0 0;child 0 0;"},
        {"0", "3", "22", "row 0 0 0 0 0 0 0 0 0 0;   "},
        {"0", "0", "-1", "size 8 2;row 1 1 2 3 4 5 6 7 8;"},
        {"0", "3", "22", "row 0 0 0 0 0 0 0 0 0 9 10 10;"}, {"0", "2", "22", "row 0 0 0 0 0 0 0 0 0 10;"},
        {"0", "2", "6", "row 0 10 0 0 0 0 0 0 0 0;"},
        {"2", "3", "80", "leg 0 1;".repeat(11)}, {"2", "0", "-1", "leg 0 1;".repeat(10) + "from 1 1;"},
        {"3", "3", "100", "not 0 0 0;".repeat(11)}, {"3", "0", "-1", "not 0 0 0;".repeat(10) + "from 1 1;"},
        {"3", "3", "105", "seen 0 0 0;".repeat(5) + "not 0 0 0;".repeat(5) + "seen 13 9 9;"},
        {"2", "2", "4", "leg 5 1;" + "leg 0 1;".repeat(10)},
        // a row, a column that is not there
        {"0", "4", "8", "row 6 0;"}, {"0", "4", "6", "row 6;"}, {"0", "4", "20", "row 0 0 0 0 0 0 0 0;"}, {"0", "4", "11", "work 6 0 0;"},
        {"0", "4", "11", "work 0 6 0;"}, {"0", "4", "8", "man 6 0;"}, {"0", "4", "10", "child 0 6;"}, {"0", "4", "14", "sleeper 0 7;  "},
        {"0", "0", "-1", "row 6 0;size 2 7;"}, {"0", "0", "-1", "man 6 0;size 7 2;"}, {"0", "4", "17", "man 5 5;size 6 5;"},
        {"0", "4", "17", "man 5 5;size 5 6;"}, {"0", "0", "-1", "size 2 2;row 1 1 1;"}, {"0", "4", "21", "size 2 2;row 1 1 1 0;"},
        {"0", "0", "-1", "size 2 2;size 3 3;man 2 2;"}, {"0", "4", "26", "size 3 3;man 2 2;size 2 2;"},
    };

    private static void faulty(String[] row) {
        int sort = Integer.parseInt(row[0]);
        int fault = Integer.parseInt(row[1]);
        String name = "'" + row[3] + "' of sort " + sort + ": ";
        FerryLand x = new FerryLand();
        Due.due(name + "text", Due.tell(x, sort, NONE, row[3]), fault == 0 ? 0 : NONE);
        Due.due(name + "fault", x.fault(0), fault);
        Due.due(name + "place", x.fault(1), Integer.parseInt(row[2]));
        Due.due(name + "count", x.count(sort), fault == 0 ? 1 : 0);
        Due.due(name + "tape", x.end(1), NONE);
    }

    private static void manyLines() {
        FerryLand x = new FerryLand();
        Due.due("40 deeds", Due.tell(x, 1, NONE, "wait 0;".repeat(40)), 0);
        Due.due("41 deeds", Due.tell(x, 1, NONE, "wait 0;".repeat(41)), NONE);
        Due.due("41 deeds", x.fault(0), 3);
        Due.due("41 deeds", x.fault(1), 280);
        Due.due("41st a level", Due.tell(x, 1, NONE, "wait 0;".repeat(40) + " level 0;"), NONE);
        Due.due("41st a level", x.fault(0), 3);
        Due.due("41st a level", x.fault(1), 281);
        // Lines that are not further ones may be as many as the tape holds.
        Due.due("many levels", Due.tell(x, 0, NONE, "hour 2;".repeat(85) + "row 0"), NONE);
        Due.due("many levels", x.fault(0), 1);
        Due.due("at the tape's end", x.fault(1), 600);
        Due.due("many levels", Due.tell(x, 0, NONE, "hour 2;".repeat(85) + "row0;"), 0);
    }

    /** A fault 1 goes before all, then the first by place, of one place the least; 4 is the last. */
    private static void faultsFirst() {
        String[][] rows = {
            {"size 1 2;row 9 10;x", "1", "18"}, {"row 8 10;row 0 10;", "2", "4"}, {"man 7 0;level 10;", "2", "14"},
            {"man 0 0;man 0 0;man 0 0;man 0 0;man 0 0;man 9 0;", "3", "40"},
            {"man 9 0;man 0 0;man 0 0;man 0 0;man 0 0;man 0 0;", "2", "4"},
            {"man 0 0;man 0 0;man 0 0;man 0 0;man 0 0;man 0 0;row", "1", "51"},
            {"man 0 0;man 0 0;man 0 0;man 0 0;man 0 0;man 0 0;row 9;", "3", "40"},
            {"row 0 0 0 0 0 0 0 0 0 0;man 9 9;", "3", "22"},
        };
        for (String[] row : rows) {
            FerryLand x = new FerryLand();
            Due.due(row[0], Due.tell(x, 0, NONE, row[0]), NONE);
            Due.due(row[0], x.fault(0), Integer.parseInt(row[1]));
            Due.due(row[0] + " place", x.fault(1), Integer.parseInt(row[2]));
        }
    }

    private static void faultAnswers() {
        FerryLand x = new FerryLand();
        Due.tell(x, 0, NONE, "size 2 9;");
        Due.due("what -1", x.fault(-1), NONE);
        Due.due("what 2", x.fault(2), NONE);
        Due.due("what 0", x.fault(0), 2);
        Due.due("what 1", x.fault(1), 7);
        Due.type(x, "more");
        Due.due("of the latest text", x.fault(0), 2);
        x.end(0);
        Due.due("good text", x.text(0, NONE), 0);
        Due.due("no fault", x.fault(0), 0);
        Due.due("no place", x.fault(1), NONE);
    }

    private static void nothingChangesByFault() {
        FerryLand x = Due.with("size 3 4;row 0 1 2 3;work 1 1 5;man 2 2;level 3;", "wait 0;", "from 1 1;leg 2 3;");
        Due.due("sight", Due.tell(x, 3, NONE, "from 1 2;not 1 1 1;"), 0);
        Due.due("bad land", Due.tell(x, 0, 0, "size 2 2;row 0 0 0;man 0 0;man 1 1;level 1;work 0 0 1;hour 99;"), NONE);
        Due.due("wide", x.land(0, 0), 3);
        Due.due("level", x.land(0, 2), 3);
        Due.due("people", x.land(0, 5), 1);
        Due.due("height", x.cell(0, 2, false), 3);
        Due.due("work", x.cell(0, 4, true), 5);
        Due.due("bad day", Due.tell(x, 1, 0, "moor 0;moor 1;moor 5;"), NONE);
        Due.due("deeds", x.deed(0, NONE, 0), 1);
        Due.due("deed", x.deed(0, 0, 0), 2);
        Due.due("bad route", Due.tell(x, 2, 0, "from 2 2;leg 0 0;"), NONE);
        Due.due("route", x.route(0, NONE, 0), 1);
        Due.due("bad sight", Due.tell(x, 3, 0, "from 2 2;seen 0 0 9;"), NONE);
        Due.due("sight", x.sight(0, NONE, 1), 2);
        Due.due("in its place", Due.tell(x, 0, 0, ""), 0);
        Due.due("wide", x.land(0, 0), 6);
        Due.due("people", x.land(0, 5), 0);
        Due.due("height", x.cell(0, 2, false), 0);
        Due.due("work", x.cell(0, 4, true), 0);
        Due.due("work", x.cell(0, 7, true), 0);
        Due.due("in its place", Due.tell(x, 2, 0, ""), 0);
        Due.due("route", x.route(0, NONE, 0), 0);
        Due.due("route", x.route(0, NONE, 2), 0);
    }

    private static void images() {
        FerryLand x = Due.with("size 3 4;row 0 1 2 3;man 2 2;", "wait 0;", "from 1 1;leg 2 3;");
        Due.due("sight", Due.tell(x, 3, NONE, "from 1 2;not 1 1 1;"), 0);
        Due.due("a fault", Due.tell(x, 0, NONE, "size 2 9;"), NONE);
        Due.type(x, "level 7;x");
        Due.due("image -1", x.image(-1), false);
        Due.due("image 3", x.image(3), false);
        Due.due("again 2", x.again(2), false);
        Due.due("image 2", x.image(2), true);
        Due.due("again 1", x.again(1), false);
        Due.due("again 3", x.again(3), false);
        Due.due("again -1", x.again(-1), false);
        x.end(8);
        Due.due("another land", x.text(0, NONE), 1);
        Due.due("another day", Due.tell(x, 1, NONE, "moor 0;"), 1);
        Due.due("other land", Due.tell(x, 0, 0, "size 5 5;child 1 1;child 2 2;"), 0);
        Due.due("other day", Due.tell(x, 1, 0, "moor 1;moor 2;"), 0);
        Due.due("other route", Due.tell(x, 2, 0, "from 3 3;"), 0);
        Due.due("other sight", Due.tell(x, 3, 0, "from 3 3;"), 0);
        Due.due("image 0", x.image(0), true);
        Due.type(x, "hour 9;");
        Due.due("again 2", x.again(2), true);
        Due.due("fault", x.fault(0), 2);
        Due.due("place", x.fault(1), 7);
        Due.due("lands", x.count(0), 1);
        Due.due("days", x.count(1), 1);
        Due.due("wide", x.land(0, 0), 3);
        Due.due("height", x.cell(0, 2, false), 3);
        Due.due("people", x.land(0, 5), 1);
        Due.due("kind", x.land(0, 10), 0);
        Due.due("cell", x.land(0, 20), 8);
        Due.due("deeds", x.deed(0, NONE, 0), 1);
        Due.due("deed", x.deed(0, 0, 0), 2);
        Due.due("route", x.route(0, NONE, 0), 1);
        Due.due("legs", x.route(0, NONE, 2), 1);
        Due.due("sight", x.sight(0, NONE, 1), 2);
        Due.due("facts", x.sight(0, NONE, 2), 1);
        Due.due("no cell 12", x.cell(0, 12, false), NONE);
        Due.due("the tape's length", x.end(9), 9);
        Due.due("the tape's bytes", x.end(8), 8);
        Due.due("the tape's text", x.text(0, 0), 0);
        Due.due("the tape's text", x.land(0, 2), 7);
        Due.due("again 0", x.again(0), true);
        Due.due("lands", x.count(0), 2);
        Due.due("wide", x.land(0, 0), 5);
        Due.due("level of the second", x.land(1, 2), 7);
        Due.due("second deed", x.deed(0, 1, 1), 2);
        Due.due("tape is empty", x.end(1), NONE);
        Due.due("no fault", x.fault(0), 0);
        Due.due("image 2 stays", x.again(2), true);
        Due.due("wide", x.land(0, 0), 3);
        Due.due("image over", x.image(0), true);
        Due.due("again 0", x.again(0), true);
        Due.due("lands", x.count(0), 1);
        Due.due("image 1", x.image(1), true);
        Due.due("again 1", x.again(1), true);
    }
}
