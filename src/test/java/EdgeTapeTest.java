/** Promises 1 to 5 and 30 to 32, sentence by sentence: at each bound, below and above it, and behind a refused call. */
public final class EdgeTapeTest {
    private static final int NONE = Due.NONE;
    private static final int BLANKS = 0x20202020;
    private static final int MARKS = 0x3f3f3f3f;
    private static final String[] PLAIN = {"size 2 3;", "wait 0;", "leg 1 2;", "seen 0 0 0;"};
    private static final int[] FAR = {Integer.MIN_VALUE, -1000000, 1000000, Integer.MAX_VALUE};

    public static void main(String[] args) {
        newObjectHasNothing();
        newObjectHasNoImages();
        objectsAreApart();
        twentyBytesBehind();
        highestByteFirst();
        bytesOfNegativeNumbers();
        sixHundredBytes();
        refusedFeedPutsNothing();
        endKeepsTheFirst();
        endOfSoMany();
        endBelowZero();
        refusedEndKeepsAll();
        sorts();
        furtherOnes();
        inThePlaceOfOne();
        noneSuchToReplace();
        asManyAsMayBe();
        refusedTextReadsNothing();
        tapeIsEmptyThen();
        faultKeepsWhatWas();
        faultOfTheLatest();
        faultOfAnotherWhat();
        counts();
        imageNumbers();
        againNumbers();
        imageIsAsItWas();
        imageOfAll();
        imageOfTapeAndFault();
        imageOfNothing();
        imageInThePlaceOfOne();
        imagesKeepNoImages();
        Due.finish("EdgeTapeTest");
    }

    private static int blanks(FerryLand x) {
        return x.feed(BLANKS, BLANKS, BLANKS, BLANKS, BLANKS);
    }

    private static int marks(FerryLand x) {
        return x.feed(MARKS, MARKS, MARKS, MARKS, MARKS);
    }

    /** An object with so many blanks on its tape. */
    private static FerryLand blank(int n) {
        FerryLand x = new FerryLand();
        for (int i = 0; i < n; i += 20) {
            blanks(x);
        }
        Due.due("blanks", x.end(n), n);
        return x;
    }

    // Promise 1

    private static void newObjectHasNothing() {
        FerryLand x = new FerryLand();
        for (int sort = 0; sort < 4; sort++) {
            Due.due("new: count " + sort, x.count(sort), 0);
        }
        Due.due("new: no land", x.land(0, 0), NONE);
        Due.due("new: no cell", x.cell(0, 0, false), NONE);
        Due.due("new: no work", x.cell(0, 0, true), NONE);
        Due.due("new: no day", x.deed(0, NONE, 0), -2);
        Due.due("new: no stop", x.stop(0, 0), NONE);
        Due.due("new: no state", x.state(0, 0, 0, 0), -2);
        Due.due("new: no route", x.route(0, NONE, 0), -2);
        Due.due("new: no sight", x.sight(0, NONE, 0), -2);
        Due.due("new: no walks", x.walks(0, 0, 0, NONE), NONE);
        Due.due("new: nothing drawn", x.drawn(0, 0, 0, 0), -2);
        Due.due("new: an empty tape", x.end(1), NONE);
        Due.due("new: an empty tape", x.end(0), 0);
        Due.due("new: no fault", x.fault(0), 0);
        Due.due("new: no place", x.fault(1), NONE);
        Due.due("new: NONE", FerryLand.NONE, -1);
    }

    private static void newObjectHasNoImages() {
        FerryLand x = new FerryLand();
        for (int k = 0; k < 3; k++) {
            Due.due("new: no image " + k, x.again(k), false);
        }
        Due.due("new: told behind a refused again", Due.tell(x, 0, NONE, ""), 0);
        for (int k = 0; k < 3; k++) {
            Due.due("new: still no image " + k, x.again(k), false);
            Due.due("new: the land stays", x.count(0), 1);
        }
    }

    private static void objectsAreApart() {
        FerryLand one = Due.with(Lands.CAPE, "wait 0;", "leg 1 2;");
        one.image(0);
        marks(one);
        FerryLand x = new FerryLand();
        for (int sort = 0; sort < 4; sort++) {
            Due.due("another object's count " + sort, x.count(sort), 0);
        }
        Due.due("another object's image", x.again(0), false);
        Due.due("another object's tape", x.end(1), NONE);
        Due.due("another object's land", Due.tell(x, 0, NONE, "size 2 2;"), 0);
        Due.due("the one's land", one.land(0, 0), 4);
        Due.due("the one's tape", one.end(20), 20);
    }

    // Promise 2

    private static void twentyBytesBehind() {
        FerryLand x = new FerryLand();
        Due.due("the first twenty", blanks(x), 20);
        Due.due("the second twenty", marks(x), 40);
        Due.due("behind it", x.text(0, NONE), NONE);
        Due.due("behind it", x.fault(1), 20);
        Due.due("again the first twenty", blanks(x), 20);
        Due.due("not whole", x.end(13), 13);
        Due.due("twenty behind thirteen", marks(x), 33);
        Due.due("behind thirteen", x.text(0, NONE), NONE);
        Due.due("behind thirteen", x.fault(1), 13);
        Due.due("behind none", marks(x), 20);
    }

    /** A mark among blanks, at each of the twenty places. */
    private static void highestByteFirst() {
        for (int place = 0; place < 20; place++) {
            int[] five = {BLANKS, BLANKS, BLANKS, BLANKS, BLANKS};
            five[place / 4] ^= ('?' ^ ' ') << 8 * (3 - place % 4);
            FerryLand x = new FerryLand();
            Due.due("a mark at " + place, x.feed(five[0], five[1], five[2], five[3], five[4]), 20);
            Due.due("a mark at " + place, x.text(0, NONE), NONE);
            Due.due("a mark at " + place, x.fault(1), place);
        }
    }

    /** 0xa0, 0x8a are no blanks, though 0x20, 0x0a are. */
    private static void bytesOfNegativeNumbers() {
        int[] first = {0xa0202020, 0x8a202020, -1, Integer.MIN_VALUE, 0x00202020, 0xf7202020, 0xbb202020};
        for (int a : first) {
            FerryLand x = new FerryLand();
            Due.due("byte " + (a >>> 24), x.feed(a, BLANKS, BLANKS, BLANKS, BLANKS), 20);
            Due.due("byte " + (a >>> 24), x.text(0, NONE), NONE);
            Due.due("byte " + (a >>> 24), x.fault(0), 1);
            Due.due("byte " + (a >>> 24), x.fault(1), 0);
        }
        FerryLand x = new FerryLand();
        Due.due("the last byte", x.feed(BLANKS, BLANKS, BLANKS, BLANKS, -1), 20);
        Due.due("the last byte", x.text(0, NONE), NONE);
        Due.due("the last byte", x.fault(1), 16);
    }

    private static void sixHundredBytes() {
        FerryLand x = new FerryLand();
        for (int i = 1; i <= 30; i++) {
            Due.due("feed " + i, blanks(x), 20 * i);
        }
        Due.due("620", blanks(x), NONE);
        int[][] rows = {{579, 599}, {580, 600}, {581, NONE}, {599, NONE}, {600, NONE}};
        for (int[] row : rows) {
            Due.due("twenty behind " + row[0], blanks(blank(row[0])), row[1]);
        }
    }

    private static void refusedFeedPutsNothing() {
        for (int n : new int[] {581, 590, 600}) {
            FerryLand x = blank(n);
            Due.due("refused behind " + n, marks(x), NONE);
            Due.due("refused again", marks(x), NONE);
            Due.due("no byte more than " + n, x.end(n + 1), NONE);
            Due.due("the bytes there were", x.end(n), n);
            Due.due("all blanks", x.text(0, NONE), 0);
            Due.due("fed again", blanks(x), 20);
        }
        FerryLand x = blank(600);
        Due.due("refused", marks(x), NONE);
        Due.due("cut", x.end(580), 580);
        Due.due("room again", marks(x), 600);
        Due.due("what came", x.text(0, NONE), NONE);
        Due.due("what came", x.fault(1), 580);
    }

    // Promise 3

    private static void endKeepsTheFirst() {
        FerryLand x = new FerryLand();
        Due.type(x, "level 7;level 8;");
        Due.due("the first eight", x.end(8), 8);
        Due.due("the first eight", x.text(0, NONE), 0);
        Due.due("the first eight", x.land(0, 2), 7);
        Due.type(x, "level 1;?");
        Due.due("the first eight", x.end(8), 8);
        Due.type(x, "hour 9;");
        Due.due("what comes is behind them", x.text(0, 0), 0);
        Due.due("what comes is behind them", x.land(0, 2), 1);
        Due.due("what comes is behind them", x.land(0, 3), 9);
    }

    private static void endOfSoMany() {
        int[] all = {0, 1, 19, 20, 599, 600};
        for (int n : all) {
            Due.due("end at all " + n, blank(n).end(n), n);
            Due.due("end one further than " + n, blank(n).end(n + 1), NONE);
            if (n > 0) {
                Due.due("end one less than " + n, blank(n).end(n - 1), n - 1);
                FerryLand x = blank(n);
                Due.due("end of none", x.end(0), 0);
                Due.due("then there is none", x.end(1), NONE);
                Due.due("then there is none", x.end(0), 0);
            }
        }
    }

    private static void endBelowZero() {
        for (int n : new int[] {-1, -2, -20, Integer.MIN_VALUE}) {
            Due.due("end of " + n, blank(20).end(n), NONE);
            Due.due("end of " + n + " of none", new FerryLand().end(n), NONE);
        }
    }

    private static void refusedEndKeepsAll() {
        for (int n : new int[] {-1, 9, 600, 601, Integer.MIN_VALUE, Integer.MAX_VALUE}) {
            FerryLand x = new FerryLand();
            Due.type(x, "level 7;");
            Due.due("refused end " + n, x.end(n), NONE);
            Due.due("all eight", x.end(8), 8);
            Due.due("all eight", x.text(0, NONE), 0);
            Due.due("all eight", x.land(0, 2), 7);
        }
    }

    // Promise 4

    private static void sorts() {
        for (int sort = -2; sort < 7; sort++) {
            FerryLand x = new FerryLand();
            boolean is = sort >= 0 && sort < 4;
            Due.due("sort " + sort, Due.tell(x, sort, NONE, is ? PLAIN[sort] : ""), is ? 0 : -2);
            for (int other = 0; other < 4; other++) {
                Due.due("sort " + sort + ": count of " + other, x.count(other), other == sort ? 1 : 0);
            }
        }
        for (int sort : FAR) {
            Due.due("sort " + sort, new FerryLand().text(sort, NONE), -2);
            Due.due("sort " + sort, new FerryLand().text(sort, 0), -2);
        }
    }

    private static void furtherOnes() {
        for (int sort = 0; sort < 4; sort++) {
            FerryLand x = new FerryLand();
            Due.due("a first one", Due.tell(x, sort, NONE, PLAIN[sort]), 0);
            Due.due("one", x.count(sort), 1);
            Due.due("a further one", Due.tell(x, sort, NONE, ""), 1);
            Due.due("two", x.count(sort), 2);
        }
        FerryLand x = Due.with("size 2 3;", null);
        Due.due("a further one", Due.tell(x, 0, NONE, "size 4 5;"), 1);
        Due.due("the first stays", x.land(0, 0), 2);
        Due.due("the further one", x.land(1, 0), 4);
    }

    private static void inThePlaceOfOne() {
        for (int sort = 0; sort < 4; sort++) {
            FerryLand x = new FerryLand();
            Due.due("first", Due.tell(x, sort, NONE, ""), 0);
            Due.due("in the place of the only one", Due.tell(x, sort, 0, PLAIN[sort]), 0);
            Due.due("still one", x.count(sort), 1);
            Due.due("second", Due.tell(x, sort, NONE, ""), 1);
            Due.due("in the place of 0 of two", Due.tell(x, sort, 0, PLAIN[sort]), 0);
            Due.due("in the place of 1 of two", Due.tell(x, sort, 1, PLAIN[sort]), 1);
            Due.due("still two", x.count(sort), 2);
        }
        FerryLand x = Due.with("size 2 3;man 1 1;", null);
        Due.due("second", Due.tell(x, 0, NONE, "size 4 5;"), 1);
        Due.due("in the place of the second", Due.tell(x, 0, 1, "size 6 7;"), 1);
        Due.due("the first stays", x.land(0, 0), 2);
        Due.due("the second is another one", x.land(1, 0), 6);
        Due.due("in the place of the first", Due.tell(x, 0, 0, "size 8 8;"), 0);
        Due.due("the first is another one", x.land(0, 0), 8);
        Due.due("nothing of what it was", x.land(0, 5), 0);
        Due.due("the second stays", x.land(1, 0), 6);
    }

    private static void noneSuchToReplace() {
        for (int sort = 0; sort < 4; sort++) {
            for (int many = 0; many < 3; many++) {
                for (int at : new int[] {-3, -2, many, many + 1, 2, 3, Integer.MIN_VALUE, Integer.MAX_VALUE}) {
                    FerryLand x = new FerryLand();
                    for (int i = 0; i < many; i++) {
                        Due.tell(x, sort, NONE, PLAIN[sort]);
                    }
                    Due.due("place " + at + " of " + many + ", sort " + sort, Due.tell(x, sort, at, ""), -2);
                    Due.due("as many as before", x.count(sort), many);
                    Due.due("FAULT 0", x.fault(0), 0);
                    Due.due("the next one", Due.tell(x, sort, NONE, ""), many < 2 ? many : -2);
                }
            }
        }
    }

    private static void asManyAsMayBe() {
        for (int sort = 0; sort < 4; sort++) {
            FerryLand x = new FerryLand();
            Due.due("one", Due.tell(x, sort, NONE, PLAIN[sort]), 0);
            Due.due("two", Due.tell(x, sort, NONE, PLAIN[sort]), 1);
            Due.due("no third", Due.tell(x, sort, NONE, ""), -2);
            Due.due("no third, again", Due.tell(x, sort, NONE, ""), -2);
            Due.due("still two", x.count(sort), 2);
            Due.due("the place of one", Due.tell(x, sort, 1, ""), 1);
            for (int other = 0; other < 4; other++) {
                Due.due("another sort has room", Due.tell(x, other, NONE, ""), other == sort ? -2 : 0);
            }
        }
    }

    /** At -2 no text is read: also a bad one has FAULT 0 then, whatever the FAULT was. */
    private static void refusedTextReadsNothing() {
        FerryLand x = Due.with("size 2 3;", null);
        Due.due("second", Due.tell(x, 0, NONE, ""), 1);
        int[][] refused = {{0, NONE}, {0, 2}, {0, -2}, {-1, NONE}, {4, NONE}, {1, 0}};
        for (int[] row : refused) {
            Due.due("a fault", Due.tell(x, 0, 0, "size 2 9;"), NONE);
            Due.due("a fault", x.fault(0), 2);
            Due.due("a refused text", Due.tell(x, row[0], row[1], "size 1 1;?"), -2);
            Due.due("FAULT 0", x.fault(0), 0);
            Due.due("no place", x.fault(1), NONE);
            Due.due("nothing is changed", x.land(0, 0), 2);
            Due.due("nothing is further", x.count(0), 2);
        }
    }

    private static void tapeIsEmptyThen() {
        FerryLand x = new FerryLand();
        int[][] calls = {{0, NONE, 0}, {0, 0, 0}, {0, NONE, 1}, {0, NONE, -2}, {0, 5, -2}, {-1, NONE, -2}, {4, 0, -2}, {1, 0, -2}, {2, NONE, NONE}, {3, NONE, NONE}};
        for (int[] row : calls) {
            Due.type(x, "level 7;level 8;level 9;");
            Due.due("text " + row[0] + " " + row[1], x.text(row[0], row[1]), row[2]);
            Due.due("empty then", x.end(1), NONE);
            Due.due("empty then", x.end(0), 0);
        }
        // A text is nothing of the one before.
        Due.due("a longer one", Due.tell(x, 0, 0, "level 7;level 8;"), 0);
        Due.due("an empty one", x.text(0, 0), 0);
        Due.due("an empty one", x.land(0, 2), 0);
    }

    private static void faultKeepsWhatWas() {
        String[] bad = {"size 9 2;", "go 5 0;", "leg 5 1;", "seen 13 0 0;"};
        for (int sort = 0; sort < 4; sort++) {
            FerryLand x = new FerryLand();
            Due.due("a first bad one", Due.tell(x, sort, NONE, bad[sort]), NONE);
            Due.due("none", x.count(sort), 0);
            Due.due("first", Due.tell(x, sort, NONE, PLAIN[sort]), 0);
            Due.due("a further bad one", Due.tell(x, sort, NONE, bad[sort]), NONE);
            Due.due("one", x.count(sort), 1);
            Due.due("a bad one in its place", Due.tell(x, sort, 0, PLAIN[sort] + bad[sort]), NONE);
            Due.due("one", x.count(sort), 1);
            Due.due("its number is free", Due.tell(x, sort, NONE, PLAIN[sort]), 1);
            int[] kept = {x.land(0, 1), x.deed(0, NONE, 0), x.route(0, NONE, 2), x.sight(0, NONE, 2)};
            int[] want = {3, 1, 1, 1};
            Due.due("what was stays", kept[sort], want[sort]);
        }
    }

    // Promise 5

    private static void faultOfTheLatest() {
        FerryLand x = new FerryLand();
        Due.due("a fault", Due.tell(x, 0, NONE, "level 1;level 10;"), NONE);
        Due.due("FAULT 2", x.fault(0), 2);
        Due.due("its place", x.fault(1), 14);
        Due.type(x, "?");
        x.end(0);
        x.land(0, 0);
        Due.due("only a text changes it", x.fault(0), 2);
        Due.due("only a text changes it", x.fault(1), 14);
        Due.due("another one", Due.tell(x, 1, NONE, "?"), NONE);
        Due.due("FAULT 1", x.fault(0), 1);
        Due.due("place 0", x.fault(1), 0);
        Due.due("a good one", Due.tell(x, 2, NONE, ""), 0);
        Due.due("FAULT 0", x.fault(0), 0);
        Due.due("no place", x.fault(1), NONE);
    }

    private static void faultOfAnotherWhat() {
        for (int what : new int[] {-2, -1, 2, 3, 10, Integer.MIN_VALUE, Integer.MAX_VALUE}) {
            FerryLand x = new FerryLand();
            Due.due("what " + what + " of new", x.fault(what), NONE);
            Due.tell(x, 0, NONE, "level 10;");
            Due.due("what " + what, x.fault(what), NONE);
            Due.due("what 0 then", x.fault(0), 2);
            Due.due("what 1 then", x.fault(1), 6);
        }
    }

    // Promise 30

    private static void counts() {
        FerryLand x = Due.with("", "");
        for (int sort : new int[] {-2, -1, 4, 5, Integer.MIN_VALUE, Integer.MAX_VALUE}) {
            Due.due("count of " + sort, x.count(sort), -2);
        }
        int[] want = {1, 1, 0, 0};
        for (int sort = 0; sort < 4; sort++) {
            Due.due("count of " + sort, x.count(sort), want[sort]);
        }
        Due.due("a fault", Due.tell(x, 3, NONE, "?"), NONE);
        Due.due("none by a fault", x.count(3), 0);
    }

    // Promises 31 and 32

    private static void imageNumbers() {
        for (int k : new int[] {-2, -1, 3, 4, Integer.MIN_VALUE, Integer.MAX_VALUE}) {
            FerryLand x = Due.with("size 2 3;", null);
            Due.due("image " + k, x.image(k), false);
            Due.due("again " + k, x.again(k), false);
            for (int other = 0; other < 3; other++) {
                Due.due("no image " + other + " by it", x.again(other), false);
            }
            Due.due("all is as it was", x.land(0, 1), 3);
        }
        for (int k = 0; k < 3; k++) {
            FerryLand x = Due.with("size 2 3;", null);
            Due.due("image " + k, x.image(k), true);
            for (int other = 0; other < 3; other++) {
                Due.due("there is image " + other, x.again(other), other == k);
            }
        }
        FerryLand x = new FerryLand();
        for (int k = 0; k < 3; k++) {
            Due.due("three at once", Due.tell(x, 0, k == 0 ? NONE : 0, "level " + k + ";"), 0);
            Due.due("three at once", x.image(k), true);
        }
        Due.due("a fourth one is refused", x.image(3), false);
        for (int k = 2; k >= 0; k--) {
            Due.due("three at once", x.again(k), true);
            Due.due("three at once", x.land(0, 2), k);
        }
    }

    private static void againNumbers() {
        for (int k : new int[] {-2, -1, 0, 2, 3, 4, Integer.MIN_VALUE, Integer.MAX_VALUE}) {
            FerryLand x = Due.with("size 2 3;", null);
            Due.due("image 1", x.image(1), true);
            Due.due("then another land", Due.tell(x, 0, 0, "size 4 5;"), 0);
            Due.type(x, "level 7;");
            Due.due("again " + k, x.again(k), false);
            Due.due("nothing is changed", x.land(0, 0), 4);
            Due.due("nothing is changed", x.end(8), 8);
            Due.due("again 1", x.again(1), true);
            Due.due("as the image has it", x.land(0, 0), 2);
            Due.due("as the image has it", x.end(1), NONE);
        }
    }

    private static void imageIsAsItWas() {
        FerryLand x = Due.with("size 2 3;", "wait 1;", "leg 1 2;");
        Due.due("sight", Due.tell(x, 3, NONE, "seen 0 0 1;"), 0);
        Due.due("image", x.image(0), true);
        for (int round = 0; round < 2; round++) {
            for (int sort = 0; sort < 4; sort++) {
                Due.due("another one", Due.tell(x, sort, 0, ""), 0);
                Due.due("a further one", Due.tell(x, sort, NONE, ""), 1);
            }
            Due.due("again", x.again(0), true);
            for (int sort = 0; sort < 4; sort++) {
                Due.due("one of sort " + sort, x.count(sort), 1);
            }
            Due.due("land", x.land(0, 1), 3);
            Due.due("day", x.deed(0, 0, 1), 1);
            Due.due("route", x.route(0, 0, 1), 2);
            Due.due("sight", x.sight(0, 0, 3), 1);
            Due.due("no land 1", x.land(1, 0), NONE);
        }
        Due.due("a further one is 1", Due.tell(x, 0, NONE, "size 7 7;"), 1);
    }

    /** Both of each sort, and all that is of them. */
    private static void imageOfAll() {
        for (int k = 0; k < 3; k++) {
            FerryLand x = Lands.full();
            Due.due("image", x.image(k), true);
            x.end(0);
            String[] texts = {Lands.WIDE, "moor 0;".repeat(20), "from 5 5;" + "leg 3 20;".repeat(10), "from 5 5;" + "seen 9 1 1;".repeat(10)};
            for (int sort = 0; sort < 4; sort++) {
                for (int i = 0; i < 2; i++) {
                    Due.due("another one", Due.tell(x, sort, i, texts[sort]), i);
                }
            }
            marks(x);
            Due.due("again", x.again(k), true);
            Twin.same("image " + k, x, Lands.full(), Lands.TAPE.length());
        }
        // Of fewer of each sort than there are then.
        FerryLand x = Due.with(Lands.CAPE, "wait 1;", "leg 1 2;");
        FerryLand y = Due.with(Lands.CAPE, "wait 1;", "leg 1 2;");
        Due.due("image", x.image(0), true);
        for (int sort = 0; sort < 4; sort++) {
            Due.due("a further one", Due.tell(x, sort, NONE, ""), sort < 3 ? 1 : 0);
        }
        Due.due("again", x.again(0), true);
        Twin.same("image of fewer", x, y, 0);
    }

    private static void imageOfTapeAndFault() {
        FerryLand x = new FerryLand();
        Due.due("a fault", Due.tell(x, 0, NONE, " ?"), NONE);
        Due.type(x, "level 7;");
        Due.due("image", x.image(2), true);
        Due.due("the tape is still there", x.end(8), 8);
        Due.due("it is taken", x.text(0, NONE), 0);
        Due.due("no fault", x.fault(0), 0);
        marks(x);
        marks(x);
        Due.due("again", x.again(2), true);
        Due.due("the fault", x.fault(0), 1);
        Due.due("its place", x.fault(1), 1);
        Due.due("no land", x.count(0), 0);
        Due.due("eight bytes", x.end(9), NONE);
        Due.due("eight bytes", x.end(8), 8);
        Due.due("these bytes", x.text(0, NONE), 0);
        Due.due("these bytes", x.land(0, 2), 7);
        FerryLand full = blank(600);
        Due.due("image of a full tape", full.image(0), true);
        Due.due("taken", full.text(0, NONE), 0);
        Due.due("again", full.again(0), true);
        Due.due("full again", blanks(full), NONE);
        Due.due("full again", full.end(600), 600);
    }

    private static void imageOfNothing() {
        FerryLand x = new FerryLand();
        Due.due("image of nothing", x.image(0), true);
        Due.due("a land", Due.tell(x, 0, NONE, ""), 0);
        Due.due("a fault", Due.tell(x, 1, NONE, "?"), NONE);
        Due.type(x, "level");
        Due.due("again", x.again(0), true);
        Due.due("no land", x.count(0), 0);
        Due.due("no land", x.land(0, 0), NONE);
        Due.due("no fault", x.fault(0), 0);
        Due.due("no place", x.fault(1), NONE);
        Due.due("no tape", x.end(1), NONE);
        Due.due("a first one", Due.tell(x, 0, NONE, "size 2 2;"), 0);
    }

    private static void imageInThePlaceOfOne() {
        FerryLand x = Due.with("size 2 3;", null);
        Due.due("image", x.image(1), true);
        Due.due("another land", Due.tell(x, 0, 0, "size 4 5;"), 0);
        Due.due("image in its place", x.image(1), true);
        Due.due("another land", Due.tell(x, 0, 0, "size 6 7;"), 0);
        Due.due("again", x.again(1), true);
        Due.due("the later image", x.land(0, 0), 4);
    }

    /** again() leaves the images as they are. */
    private static void imagesKeepNoImages() {
        FerryLand x = Due.with("size 2 3;", null);
        Due.due("image 0", x.image(0), true);
        Due.due("another land", Due.tell(x, 0, 0, "size 4 5;"), 0);
        Due.due("image 1", x.image(1), true);
        Due.due("again 0", x.again(0), true);
        Due.due("image 1 is there", x.again(1), true);
        Due.due("image 1", x.land(0, 0), 4);
        Due.due("again 0", x.again(0), true);
        Due.due("told behind it", Due.tell(x, 0, 0, "size 8 8;"), 0);
        Due.due("image 0 is as it was", x.again(0), true);
        Due.due("image 0 is as it was", x.land(0, 0), 2);
    }
}
