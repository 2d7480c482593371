/** Term 1, sentence by sentence: tokens, texts, bounds of their numbers, further ones, faults and their places. */
public final class EdgeTextTest {
    private static final int NONE = Due.NONE;
    private static final String[] SORT = {"land", "day", "route", "sight"};
    /** Of each sort its lines, with the least numbers that can be. */
    private static final String[][] LINES = {
        {"size 2 2;", "row 0 0;", "level 0;", "hour 1;", "afloat 0;", "work 0 0 0;", "man 0 0;", "child 0 0;", "sleeper 0 0;"},
        {"go 0 0;", "work 0;", "wait 0;", "moor 0;", "level 0;"},
        {"from 0 0;", "leg 0 1;"},
        {"from 0 0;", "seen 0 0 0;", "not 0 0 0;"},
    };

    public static void main(String[] args) {
        emptyTexts();
        blanksAreTwo();
        blanksBetween();
        wordsAreLetters();
        wordsAsLongAsTheyGo();
        numbersOfOneOrTwoDigits();
        longerRowsOfDigits();
        digitsAreTen();
        semicolonIsOneByte();
        wordsOfOtherSorts();
        numbersTooFewOrTooMany();
        linesOfATokenLess();
        boundsOfALand();
        boundsOfADay();
        boundsOfARoute();
        boundsOfASight();
        tooManyPeople();
        tooManyDeeds();
        tooManyLegs();
        tooManyFacts();
        ninthHeights();
        linesThatAreNoFurtherOnes();
        linesWithBadNumbersTellAllTheSame();
        firstFaultOne();
        faultOneGoesFirst();
        firstByPlace();
        ofOnePlaceTheLeast();
        faultFourIsTheLast();
        rowsAndColumnsNotThere();
        sizeThatComesLast();
        endsPlace();
        Due.finish("EdgeTextTest");
    }

    private static void ok(int sort, String text) {
        FerryLand x = new FerryLand();
        String name = "'" + text + "' as a " + SORT[sort];
        Due.due(name, Due.tell(x, sort, NONE, text), 0);
        Due.due(name + ": fault", x.fault(0), 0);
        Due.due(name + ": place", x.fault(1), NONE);
        Due.due(name + ": count", x.count(sort), 1);
    }

    private static void bad(int sort, int fault, int place, String text) {
        FerryLand x = new FerryLand();
        String name = "'" + text + "' as a " + SORT[sort];
        Due.due(name, Due.tell(x, sort, NONE, text), NONE);
        Due.due(name + ": fault", x.fault(0), fault);
        Due.due(name + ": place", x.fault(1), place);
        Due.due(name + ": count", x.count(sort), 0);
    }

    /** A fault at a mark: the text is without it. */
    private static void badAt(int sort, int fault, String marked) {
        bad(sort, fault, marked.indexOf('|'), marked.replace("|", ""));
    }

    private static void emptyTexts() {
        for (int sort = 0; sort < 4; sort++) {
            for (String text : new String[] {"", " ", "\n", " \n \n  ", " ".repeat(599), "\n".repeat(600)}) {
                ok(sort, text);
            }
        }
    }

    private static void blanksAreTwo() {
        for (int sign = 0; sign < 256; sign++) {
            String text = "level" + (char) sign + "7;";
            if (sign == 10 || sign == 32 || sign == '0') {
                ok(0, text);
            } else if (sign >= '0' && sign <= '9') {
                bad(0, 2, 5, text);
            } else {
                // A letter makes another word of it.
                bad(0, 1, sign >= 'a' && sign <= 'z' ? 0 : 5, text);
            }
        }
    }

    private static void blanksBetween() {
        ok(0, "size 2 3;level 4;");
        ok(0, "  size  2\n\n3 ; \nlevel\n4\n;\n");
        ok(0, "size2 3;level4;");
        badAt(0, 2, "size|23 3;");
        badAt(0, 1, "size 23|;");
        badAt(0, 1, "|si ze 2 3;");
        badAt(0, 1, "|levelhour 3;");
        ok(0, "row" + " ".repeat(500) + "0" + "\n".repeat(90) + ";");
    }

    private static void wordsAreLetters() {
        // The signs beside a and z, and the great letters.
        for (char sign : new char[] {'`', '{', 'A', 'Z', '@', '[', '_', '-', (char) 225, (char) 250}) {
            bad(0, 1, 0, sign + "level 7;");
            bad(0, 1, 5, "level" + sign + " 7;");
        }
        badAt(0, 1, "|Level 7;");
        badAt(0, 1, "|leVel 7;");
        badAt(0, 1, "|a 7;");
        badAt(0, 1, "|z 7;");
        badAt(2, 1, "|az 7;");
    }

    private static void wordsAsLongAsTheyGo() {
        for (int sort = 0; sort < 4; sort++) {
            for (String line : LINES[sort]) {
                String word = line.substring(0, line.indexOf(' '));
                bad(sort, 1, 0, "a" + line);
                bad(sort, 1, 0, "z" + line);
                bad(sort, 1, 0, word + "s" + line.substring(word.length()));
                bad(sort, 1, 0, word + word + line.substring(word.length()));
                bad(sort, 1, 0, line.substring(1));
                bad(sort, 1, 0, word.substring(0, word.length() - 1) + line.substring(word.length()));
            }
        }
    }

    private static void numbersOfOneOrTwoDigits() {
        ok(0, "level 7;");
        ok(0, "level 07;");
        ok(0, "level 00;");
        ok(0, "hour 60;");
        ok(0, "row 00 00 9 09;");
        ok(3, "seen 12 07 7;");
        FerryLand x = Due.with("size 08 02;hour 09;row 01 08 9;", null);
        Due.due("08", x.land(0, 0), 8);
        Due.due("02", x.land(0, 1), 2);
        Due.due("09", x.land(0, 3), 9);
        Due.due("08", x.cell(0, 8, false), 8);
        Due.due("9", x.cell(0, 9, false), 9);
    }

    private static void longerRowsOfDigits() {
        badAt(0, 1, "level |007;");
        badAt(0, 1, "level |000;");
        badAt(0, 1, "level|100;");
        badAt(0, 1, "hour |060;");
        badAt(0, 1, "size 2 |002;");
        badAt(0, 1, "row 0 1 |123;");
        badAt(0, 1, "row 0 1 |1234567890123456789012345678901234567890");
        badAt(0, 1, "|007;");
        badAt(0, 1, "level 7 |123;");
        badAt(0, 1, "hour |256;");
        badAt(0, 1, "hour |4294967297;");
        badAt(0, 1, "level |" + "0".repeat(590));
        badAt(1, 1, "wait |000;");
        badAt(2, 1, "leg 0 |001;");
        badAt(3, 1, "seen |012 0 0;");
    }

    private static void digitsAreTen() {
        for (int digit = 0; digit < 10; digit++) {
            FerryLand x = Due.with("level " + digit + ";afloat 1" + digit + ";", null);
            Due.due("digit " + digit, x.land(0, 2), digit);
            Due.due("digit " + digit, x.land(0, 4), 10 + digit);
        }
        // The signs beside 0 and 9.
        badAt(0, 1, "level |/;");
        badAt(0, 1, "level |:;");
        badAt(0, 1, "level 7|/;");
        badAt(0, 1, "level 7|:");
        badAt(0, 1, "level |-7;");
        badAt(0, 1, "level |+7;");
        badAt(0, 1, "level 7|.0;");
    }

    private static void semicolonIsOneByte() {
        ok(0, "level 7;level 8;");
        badAt(0, 1, "level 7;|;");
        badAt(0, 1, "|;");
        badAt(0, 1, "|;level 7;");
        badAt(0, 1, "level 7|,");
        badAt(0, 1, "level 7|:");
        badAt(0, 1, "level 7|<");
        badAt(1, 1, "|;");
        badAt(2, 1, "|;");
        badAt(3, 1, "|;");
    }

    private static void wordsOfOtherSorts() {
        for (int sort = 0; sort < 4; sort++) {
            for (int other = 0; other < 4; other++) {
                for (String line : LINES[other]) {
                    String word = line.substring(0, line.indexOf(' '));
                    boolean has = false;
                    for (String own : LINES[sort]) {
                        has |= own.startsWith(word + " ");
                    }
                    if (other == sort) {
                        ok(sort, line);
                    } else if (!has) {
                        bad(sort, 1, 0, line);
                        bad(sort, 1, LINES[sort][0].length(), LINES[sort][0] + line);
                    }
                }
            }
        }
        // Words that two sorts have, with other numbers.
        badAt(0, 1, "work 0|;");
        badAt(1, 1, "work 0 |0 0;");
        ok(0, "level 9;");
        ok(1, "level 9;");
        ok(2, "from 7 7;");
        ok(3, "from 7 7;");
    }

    private static void numbersTooFewOrTooMany() {
        for (int sort = 0; sort < 4; sort++) {
            for (String line : LINES[sort]) {
                String bare = line.substring(0, line.length() - 1);
                int last = bare.lastIndexOf(' ');
                boolean row = line.startsWith("row");
                if (row) {
                    ok(sort, "row 0;");
                    ok(sort, "row 0 0 0;");
                    badAt(sort, 1, "row|;");
                    badAt(sort, 1, "row |;");
                } else {
                    bad(sort, 1, last, bare.substring(0, last) + ";");
                    bad(sort, 1, last + 1, bare.substring(0, last) + " ;");
                    bad(sort, 1, bare.length() + 1, bare + " 0;");
                }
                bad(sort, 1, line.indexOf(' ') + 1, line.replaceFirst(" .*", " x 0;"));
            }
        }
    }

    /** Of each line each token's end as the text's end: the end's place. */
    private static void linesOfATokenLess() {
        for (int sort = 0; sort < 4; sort++) {
            for (String line : LINES[sort]) {
                for (int cut = line.indexOf(' '); cut < line.length(); cut++) {
                    bad(sort, 1, cut, line.substring(0, cut));
                    bad(sort, 1, cut + 3, line.substring(0, cut) + " \n ");
                    bad(sort, 1, line.length() + cut, line + line.substring(0, cut));
                }
                ok(sort, line);
                ok(sort, line + " \n ");
            }
        }
    }

    /** A line with one number N: the least and the greatest that can be, and those beside them. */
    private static void bounds(int sort, String line, int least, int most) {
        int place = line.indexOf('N');
        String large = sort == 0 && !line.startsWith("size") ? "size 8 8;" : "";
        ok(sort, large + line.replace("N", "" + least));
        ok(sort, large + line.replace("N", "" + most));
        bad(sort, 2, large.length() + place, large + line.replace("N", "" + (most + 1)));
        bad(sort, 2, large.length() + place, large + line.replace("N", "99"));
        if (least > 0) {
            bad(sort, 2, large.length() + place, large + line.replace("N", "" + (least - 1)));
            bad(sort, 2, large.length() + place, large + line.replace("N", "00"));
        }
    }

    private static void boundsOfALand() {
        bounds(0, "size N 2;", 2, 8);
        bounds(0, "size 8 N;", 2, 8);
        bounds(0, "row N;", 0, 7);
        bounds(0, "row N 1 2;", 0, 7);
        bounds(0, "row 0 N;", 0, 9);
        bounds(0, "row 7 1 N 3;", 0, 9);
        bounds(0, "row 0 1 2 3 4 5 6 7 N;", 0, 9);
        bounds(0, "level N;", 0, 9);
        bounds(0, "hour N;", 1, 60);
        bounds(0, "afloat N;", 0, 20);
        bounds(0, "work N 0 1;", 0, 7);
        bounds(0, "work 0 N 1;", 0, 7);
        bounds(0, "work 0 0 N;", 0, 20);
        for (String kind : new String[] {"man", "child", "sleeper"}) {
            bounds(0, kind + " N 0;", 0, 7);
            bounds(0, kind + " 0 N;", 0, 7);
        }
    }

    private static void boundsOfADay() {
        bounds(1, "go N 0;", 0, 4);
        bounds(1, "go 0 N;", 0, 3);
        bounds(1, "work N;", 0, 4);
        bounds(1, "wait N;", 0, 4);
        bounds(1, "moor N;", 0, 4);
        bounds(1, "level N;", 0, 9);
    }

    private static void boundsOfARoute() {
        bounds(2, "from N 0;", 0, 7);
        bounds(2, "from 0 N;", 0, 7);
        bounds(2, "leg N 1;", 0, 4);
        bounds(2, "leg 0 N;", 1, 20);
        bounds(2, "leg 4 N;", 1, 20);
    }

    private static void boundsOfASight() {
        bounds(3, "from N 0;", 0, 7);
        bounds(3, "from 0 N;", 0, 7);
        for (String word : new String[] {"seen", "not"}) {
            bounds(3, word + " N 0 0;", 0, 12);
            bounds(3, word + " 0 N 0;", 0, 7);
            bounds(3, word + " 0 0 N;", 0, 7);
        }
    }

    private static void tooManyPeople() {
        String four = "man 0 0;child 0 0;sleeper 0 0;man 1 1;";
        for (String line : new String[] {"man 0 0;", "child 0 0;", "sleeper 0 0;"}) {
            ok(0, four);
            ok(0, four + line);
            badAt(0, 3, four + line + "|" + line);
            badAt(0, 3, four + line + " \n|" + line + line);
            badAt(0, 3, four + line + "level 3;|" + line);
            ok(0, four + line + "level 3;size 2 2;");
        }
    }

    private static void tooManyDeeds() {
        String many = "wait 0;".repeat(39);
        for (String line : LINES[1]) {
            ok(1, many);
            ok(1, many + line);
            badAt(1, 3, many + line + "|" + line);
            badAt(1, 3, many + line + "|" + line + line);
            badAt(1, 3, line.repeat(40) + "  |wait 0;");
        }
    }

    private static void tooManyLegs() {
        String many = "leg 0 1;".repeat(9);
        ok(2, many);
        ok(2, many + "leg 4 20;");
        badAt(2, 3, many + "leg 4 20;|leg 4 20;");
        badAt(2, 3, many + "leg 4 20;from 1 1;\n|leg 4 20;leg 0 1;");
        ok(2, many + "leg 4 20;from 1 1;");
    }

    private static void tooManyFacts() {
        String many = "seen 0 0 0;not 1 1 1;seen 2 2 2;".repeat(3);
        ok(3, many);
        for (String line : new String[] {"seen 0 0 0;", "not 0 0 0;"}) {
            ok(3, many + line);
            badAt(3, 3, many + line + "|" + line);
            badAt(3, 3, many + line + "from 1 1;  |" + line + line);
            ok(3, many + line + "from 1 1;");
        }
    }

    private static void ninthHeights() {
        ok(0, "size 7 2;row 0 1 2 3 4 5 6 7;");
        ok(0, "size 8 2;row 0 1 2 3 4 5 6 7 8;");
        badAt(0, 3, "size 8 2;row 0 1 2 3 4 5 6 7 8 |9;");
        badAt(0, 3, "size 8 2;row 0 1 2 3 4 5 6 7 8 |9 1 2;");
        badAt(0, 3, "row 0 1 2 3 4 5 6 7 8 |0;");
        badAt(0, 3, "size 8 2;row 0 1 2 3 4 5 6 7 8;row 1 1 2 3 4 5 6 7 8 |9;");
        // Eight of one row and of another one are no ninth.
        ok(0, "size 8 2;row 0 1 2 3 4 5 6 7 8;row 0 1 2 3 4 5 6 7 8;row 1 1 2 3 4 5 6 7 8;");
    }

    /** Of these there may be as many as the tape holds. */
    private static void linesThatAreNoFurtherOnes() {
        for (String line : new String[] {"size 2 2;", "row 0 0;", "level 0;", "hour 1;", "afloat 0;", "work 0 0 0;"}) {
            ok(0, line.repeat(600 / line.length()));
        }
        ok(2, "from 0 0;".repeat(66));
        ok(3, "from 0 0;".repeat(66));
    }

    private static void linesWithBadNumbersTellAllTheSame() {
        // The fault is the first one by place; the sixth one is behind it.
        badAt(0, 2, "man |8 0;man 0 0;man 0 0;man 0 0;man 0 0;man 0 0;");
        badAt(1, 2, "wait |5;" + "wait 0;".repeat(40));
        badAt(2, 2, "leg |5 1;" + "leg 0 1;".repeat(10));
        badAt(3, 2, "not |13 0 0;" + "not 0 0 0;".repeat(10));
        // Nothing of a text with a fault is kept.
        FerryLand x = Due.with("", null);
        Due.due("a bad line", Due.tell(x, 0, 0, "man 1 1;man 8 0;"), NONE);
        Due.due("nobody", x.land(0, 5), 0);
    }

    private static void firstFaultOne() {
        badAt(0, 1, "level |?;level !");
        badAt(0, 1, "level 1;|wait 0;size 2;");
        badAt(0, 1, "level 1|level 2");
        badAt(1, 1, "go 0 |go");
        badAt(0, 1, "row 0 1 2 |row 1;");
        badAt(0, 1, "size 2 |size 2 2;");
        badAt(0, 1, "size |;");
    }

    private static void faultOneGoesFirst() {
        badAt(0, 1, "size 1 1;level 10;|x");
        badAt(0, 1, "man 0 0;".repeat(6) + "man 0 0|");
        badAt(0, 1, "row 0 1 2 3 4 5 6 7 8 9|");
        badAt(0, 1, "row 6 1;level|");
        badAt(0, 1, "man 7 7;|?");
        badAt(1, 1, "wait 9;".repeat(41) + "|;");
        badAt(2, 1, "leg 9 99;from 9|;");
        badAt(3, 1, "seen 99 9 9;not 0 0|");
    }

    private static void firstByPlace() {
        badAt(0, 2, "level |10;hour 0;");
        badAt(0, 2, "size |9 9;");
        badAt(0, 2, "size 8 |9;size 1 1;");
        badAt(0, 3, "man 0 0;".repeat(5) + "|man 0 0;level 10;");
        badAt(0, 2, "man 0 0;".repeat(5) + "level |10;man 0 0;");
        badAt(0, 3, "row 0 1 2 3 4 5 6 7 8 |9;level 10;");
        badAt(0, 2, "row 0 1 2 3 4 5 6 7 |10 9;");
        badAt(0, 2, "row |8 1 2 3 4 5 6 7 8 9;");
        badAt(1, 2, "wait 0;".repeat(39) + "wait |5;wait 0;");
        badAt(2, 2, "leg 0 |0;leg 5 1;");
    }

    private static void ofOnePlaceTheLeast() {
        // A ninth HEIGHT above 9 is both.
        badAt(0, 2, "size 8 2;row 0 1 2 3 4 5 6 7 8 |10;");
        badAt(0, 3, "size 8 2;row 0 1 2 3 4 5 6 7 8 |9 10;");
        // A further one too many is at its first token, its number behind that.
        badAt(0, 3, "man 0 0;".repeat(5) + "|man 8 8;");
        badAt(1, 3, "wait 0;".repeat(40) + "|wait 5;");
        badAt(2, 3, "leg 0 1;".repeat(10) + "|leg 5 0;");
        badAt(3, 3, "not 0 0 0;".repeat(10) + "|not 13 8 8;");
    }

    private static void faultFourIsTheLast() {
        badAt(0, 2, "man 7 7;level |10;");
        badAt(0, 3, "man 7 7;".repeat(5) + "|man 7 7;");
        badAt(0, 2, "row 7;size |9 2;");
        badAt(0, 4, "man 7 7;|");
        // Only a LAND has it: a place of 7, 7 may be one of a larger land.
        ok(2, "from 7 7;");
        ok(3, "from 7 7;seen 0 7 7;not 0 7 7;");
    }

    private static void rowsAndColumnsNotThere() {
        // WIDE 3, HIGH 4: a line at the last one, and one further.
        String[][] rows = {
            {"row 3;", "row 4;"}, {"row 3 1 2 3;", "row 4 1 2 3;"}, {"row 0 1 2 3;", "row 0 1 2 3 0;"}, {"row 3 0 0 0;", "row 3 0 0 0 0;"},
            {"work 2 0 1;", "work 3 0 1;"}, {"work 0 3 1;", "work 0 4 1;"}, {"work 2 3 0;", "work 3 3 0;"}, {"work 2 3 0;", "work 2 4 0;"},
            {"man 2 0;", "man 3 0;"}, {"man 0 3;", "man 0 4;"}, {"child 2 3;", "child 3 3;"}, {"child 2 3;", "child 2 4;"},
            {"sleeper 2 3;", "sleeper 3 2;"}, {"sleeper 0 3;", "sleeper 0 7;"}, {"row 0;", "row 7;"}, {"man 0 0;", "man 7 0;"},
        };
        for (String[] row : rows) {
            ok(0, "size 3 4;" + row[0]);
            badAt(0, 4, "size 3 4;" + row[1] + "|");
            badAt(0, 4, "size 3 4;" + row[1] + "level 3; \n|");
        }
        // Six each at first.
        ok(0, "row 5 1 2 3 4 5 6;work 5 5 1;man 5 5;");
        badAt(0, 4, "row 6;|");
        badAt(0, 4, "row 0 0 0 0 0 0 0 0;|");
        badAt(0, 4, "work 6 0 1;|");
        badAt(0, 4, "work 0 6 1;|");
        badAt(0, 4, "man 6 0;|");
        badAt(0, 4, "man 0 6;|");
        // The least and the greatest land.
        ok(0, "size 2 2;row 1 1 2;work 1 1 1;man 1 1;");
        badAt(0, 4, "size 2 2;man 2 1;|");
        badAt(0, 4, "size 2 2;man 1 2;|");
        ok(0, "size 8 8;row 7 1 2 3 4 5 6 7 8;work 7 7 1;man 7 7;");
    }

    private static void sizeThatComesLast() {
        ok(0, "man 6 0;size 7 2;");
        badAt(0, 4, "man 6 0;size 6 2;|");
        ok(0, "row 6;size 2 7;");
        badAt(0, 4, "row 6;size 2 6;|");
        badAt(0, 4, "size 8 8;man 6 0;size 6 8;|");
        ok(0, "size 2 2;man 6 0;size 8 8;");
    }

    private static void endsPlace() {
        FerryLand x = new FerryLand();
        String most = "level 7;".repeat(74);
        Due.due("a tape full of lines", Due.tell(x, 0, NONE, most + "hour 12;"), 0);
        Due.due("the end of a full tape", Due.tell(x, 0, 0, most + "hour 123"), NONE);
        Due.due("a longer row of digits", x.fault(1), 592 + 5);
        Due.due("the end of a full tape", Due.tell(x, 0, 0, most + "level 10"), NONE);
        Due.due("fault 1 at the end", x.fault(0), 1);
        Due.due("fault 1 at the end", x.fault(1), 600);
        Due.due("the end of a full tape", Due.tell(x, 0, 0, most + "man 7 7;"), NONE);
        Due.due("fault 4 at the end", x.fault(0), 4);
        Due.due("fault 4 at the end", x.fault(1), 600);
        Due.due("what was told first stays", x.land(0, 2), 7);
        Due.due("an empty tape", x.text(0, 0), 0);
    }
}
