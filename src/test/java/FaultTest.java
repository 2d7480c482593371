import java.util.ArrayList;
import java.util.List;
import java.util.Random;
import java.util.regex.Matcher;
import java.util.regex.Pattern;

/** Random texts, most of them broken somewhere, each fault against a reading by regular expressions. */
public final class FaultTest {
    private static final Random RANDOM = new Random(1118);
    private static final Pattern TOKEN = Pattern.compile("[a-z]+|[0-9]+|[^ \\n]", Pattern.DOTALL);
    private static final String[] LINES = {
        "size N N ;|row N (?:N )*;|level N ;|hour N ;|afloat N ;|work N N N ;|man N N ;|child N N ;|sleeper N N ;",
        "go N N ;|work N ;|wait N ;|moor N ;|level N ;",
        "from N N ;|leg N N ;",
        "from N N ;|seen N N N ;|not N N N ;",
    };
    private static final String[] WORDS = {"size", "row", "level", "hour", "afloat", "work", "man", "child", "sleeper", "go",
        "wait", "moor", "from", "leg", "seen", "not", "a", "rows"};

    public static void main(String[] args) {
        for (int i = 0; i < 60000; i++) {
            int sort = RANDOM.nextInt(4);
            String text = random(sort);
            if (text.length() > 600) {
                continue;
            }
            FerryLand x = new FerryLand();
            int got = Due.tell(x, sort, Due.NONE, text);
            int[] want = fault(sort, text);
            Due.due("'" + text + "' of sort " + sort, got, want[0] == 0 ? 0 : Due.NONE);
            Due.due("'" + text + "' of sort " + sort + ": fault", x.fault(0), want[0]);
            Due.due("'" + text + "' of sort " + sort + ": place", x.fault(1), want[1]);
        }
        Due.finish("FaultTest");
    }

    private static String random(int sort) {
        StringBuilder b = new StringBuilder();
        String[] lines = LINES[sort].split("\\|");
        int many = RANDOM.nextInt(RANDOM.nextInt(4) == 0 ? 45 : 8);
        boolean broken = RANDOM.nextInt(3) == 0;
        boolean wild = RANDOM.nextInt(2) == 0;
        for (int i = 0; i < many; i++) {
            String line = lines[RANDOM.nextInt(lines.length)];
            line = line.replace("(?:N )*", "N ".repeat(RANDOM.nextInt(RANDOM.nextInt(4) == 0 ? 12 : 6)));
            for (String token : line.split(" ")) {
                if (broken && RANDOM.nextInt(60) == 0) {
                    b.append(new String[] {"", "?", ";", "123", "007", "\t", "row", " x", "\u00ff", "A"}[RANDOM.nextInt(10)]);
                }
                b.append(blanks(b, token));
                b.append(token.equals("N") ? number(wild) : token);
            }
        }
        if (broken && RANDOM.nextInt(4) == 0 && b.length() > 0) {
            b.setLength(RANDOM.nextInt(b.length()));
        }
        return b.append(new String[] {"", " ", "\n  "}[RANDOM.nextInt(3)]).toString();
    }

    private static String blanks(StringBuilder before, String token) {
        boolean afterNumber = before.length() > 0 && Character.isDigit(before.charAt(before.length() - 1));
        boolean needed = token.equals("N") && afterNumber;
        return needed || RANDOM.nextInt(5) == 0 ? (RANDOM.nextInt(4) == 0 ? " \n" : " ") : "";
    }

    private static String number(boolean wild) {
        int most = wild ? 11 : 6;
        int number = RANDOM.nextInt(30) == 0 ? RANDOM.nextInt(wild ? 100 : 9) : RANDOM.nextInt(most);
        return (RANDOM.nextInt(9) == 0 && number < 10 ? "0" : "") + number;
    }

    /** The fault and its place. */
    private static int[] fault(int sort, String text) {
        List<String> tokens = new ArrayList<>();
        List<Integer> places = new ArrayList<>();
        Matcher m = TOKEN.matcher(text);
        while (m.find()) {
            tokens.add(m.group());
            places.add(m.start());
        }
        // As long as what is there can still become a text it is a prefix of one.
        Pattern whole = Pattern.compile("(?:" + LINES[sort].replace(";", "; ") + ")*");
        StringBuilder shape = new StringBuilder();
        for (int i = 0; i < tokens.size(); i++) {
            String token = tokens.get(i);
            shape.append(token.matches("[0-9]{1,2}") ? "N" : token.matches("[0-9]+") ? "!" : token).append(' ');
            Matcher match = whole.matcher(shape);
            if (!match.matches() && !match.hitEnd()) {
                return new int[] {1, places.get(i)};
            }
        }
        if (!whole.matcher(shape).matches()) {
            return new int[] {1, text.length()};
        }
        return numbers(sort, tokens, places, text.length());
    }

    private static int[] numbers(int sort, List<String> tokens, List<Integer> places, int end) {
        int further = 0;
        int most = new int[] {5, 40, 10, 10}[sort];
        int[] size = {6, 6};
        int[] far = {0, 0};
        for (int i = 0; i < tokens.size(); i++) {
            String word = tokens.get(i);
            further += word.matches("man|child|sleeper|leg|seen|not") || sort == 1 ? 1 : 0;
            if (further > most) {
                return new int[] {3, places.get(i)};
            }
            List<Integer> given = new ArrayList<>();
            for (i++; !tokens.get(i).equals(";"); i++) {
                int number = Integer.parseInt(tokens.get(i));
                int[] bounds = bounds(sort, word, given.size());
                if (number < bounds[0] || number > bounds[1]) {
                    return new int[] {2, places.get(i)};
                }
                given.add(number);
                if (word.equals("row") && given.size() > 9) {
                    return new int[] {3, places.get(i)};
                }
            }
            if (sort == 0) {
                told(word, given, size, far);
            }
        }
        return sort == 0 && (far[0] >= size[0] || far[1] >= size[1]) ? new int[] {4, end} : new int[] {0, -1};
    }

    private static void told(String word, List<Integer> given, int[] size, int[] far) {
        if (word.equals("size")) {
            size[0] = given.get(0);
            size[1] = given.get(1);
        } else if (word.equals("row")) {
            far[0] = Math.max(far[0], given.size() - 2);
            far[1] = Math.max(far[1], given.get(0));
        } else if (given.size() > 1) {
            far[0] = Math.max(far[0], given.get(0));
            far[1] = Math.max(far[1], given.get(1));
        }
    }

    private static int[] bounds(int sort, String word, int which) {
        switch (word) {
            case "size":
                return new int[] {2, 8};
            case "row":
                return new int[] {0, which == 0 ? 7 : 9};
            case "level":
                return new int[] {0, 9};
            case "hour":
                return new int[] {1, 60};
            case "afloat":
                return new int[] {0, 20};
            case "work":
                return new int[] {0, sort == 1 ? 4 : which < 2 ? 7 : 20};
            case "go":
                return new int[] {0, which == 0 ? 4 : 3};
            case "wait":
            case "moor":
                return new int[] {0, 4};
            case "leg":
                return which == 0 ? new int[] {0, 4} : new int[] {1, 20};
            case "seen":
            case "not":
                return new int[] {0, which == 0 ? 12 : 7};
            default:
                return new int[] {0, 7};
        }
    }
}
