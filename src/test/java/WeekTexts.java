import java.util.ArrayList;
import java.util.List;
import java.util.Random;

/** Makes texts of weeks by a seed: fine ones, and such with faults in them. */
final class WeekTexts {
    private static final String[] WORDS = {"field", "road", "club", "one", "at", "no", "off", "to", "game", "on", "for",
        "grade", "by", "rest", "most", "fee", "need", "seat", "lasts", "day", "begins", "way", "form"};
    private static final String[] BITS = {";", ";", "(", ")", "+", "-", "*", "/", "0", "1", "5", "6", "7", "240", "241",
        "1299", "1300", "9999", "10000", "00005", "140", "141", "9", "10", "120", "121", " ", "\n", "\t", "A", "_", "\u0000",
        "\u00ff", "abcdef", "abcdefg", "a", "b", "field q;", "club q;", "one q 3 at q;", "fee 1;", "((((1))))",
        "(((((1)))))", "most 4;", "rest 0;"};

    private final Random random;
    private final List<String> lines = new ArrayList<>();
    private final List<String> fields = new ArrayList<>();
    private final List<String> clubs = new ArrayList<>();
    private final List<String> ones = new ArrayList<>();
    /** Officials of one grade that may do nearly all, few fields. */
    private boolean easy;

    private WeekTexts(Random random) {
        this.random = random;
    }

    static String fine(Random random) {
        String text = new WeekTexts(random).make(false);
        while (text.length() > 1200) {
            text = text.substring(0, text.lastIndexOf(';', text.length() - 2) + 1);
        }
        return text;
    }

    /** Some lines more than there may be, and pieces put in, taken out and exchanged. */
    static String broken(Random random) {
        StringBuilder text = new StringBuilder(new WeekTexts(random).make(true));
        int breaks = random.nextInt(3);
        for (int i = 0; i < breaks && text.length() > 0; i++) {
            int at = random.nextInt(text.length());
            int kind = random.nextInt(7);
            if (kind >= 4) {
                aim(text, at, kind, random);
            } else if (kind == 0) {
                text.deleteCharAt(at);
            } else if (kind == 1) {
                text.insert(at, BITS[random.nextInt(BITS.length)]);
            } else if (kind == 2) {
                text.insert(at, " " + WORDS[random.nextInt(WORDS.length)] + " ");
            } else {
                text.setLength(at);
            }
        }
        return text.length() > 1200 ? text.substring(0, 1200) : text.toString();
    }

    /** Another number for the next one, another word for the next one, or more of the next "(". */
    private static void aim(StringBuilder text, int from, int kind, Random random) {
        int at = from;
        while (at < text.length() && !isOf(kind, text.charAt(at))) {
            at++;
        }
        int end = at;
        while (end < text.length() && isOf(kind, text.charAt(end))) {
            end++;
        }
        if (at < text.length()) {
            String[] numbers = {"0", "1", "3", "4", "5", "6", "7", "9", "10", "120", "121", "140", "141", "240", "241",
                "1299", "1300", "9999", "10000", "00001"};
            String other = kind == 4 ? numbers[random.nextInt(numbers.length)]
                : kind == 5 ? text.substring(Math.max(0, from - 2), from).replaceAll("[^a-z]", "f") + "a"
                : "(((((".substring(random.nextInt(5));
            text.replace(at, end, other);
        }
    }

    private static boolean isOf(int kind, char c) {
        return kind == 4 ? c >= '0' && c <= '9' : kind == 5 ? c >= 'a' && c <= 'z' : c == '(';
    }

    private int of(int n) {
        return random.nextInt(n);
    }

    private String any(List<String> names) {
        return names.get(of(names.size()));
    }

    private String fresh(char first, int number) {
        StringBuilder name = new StringBuilder().append(first);
        name.append((char) ('a' + number));
        for (int i = of(12) == 0 ? 4 : 0; i > 0; i--) {
            name.append((char) ('a' + of(26)));
        }
        String made = name.toString();
        return List.of(WORDS).contains(made) ? "z" + (char) ('a' + number) : made;
    }

    private String make(boolean wild) {
        easy = of(5) < 2;
        int spare = wild && of(6) == 0 ? 1 : 0;
        int many = easy ? 2 + of(3) : of(10) < 7 ? 6 : of(6) + 1;
        for (int i = 0; i < Math.min(many + spare, 7); i++) {
            fields.add(fresh('f', i));
            lines.add("field " + fields.get(i));
        }
        int clubCount = of(4) == 0 ? 8 : 2 + of(6);
        for (int i = 0; i < clubCount + spare; i++) {
            clubs.add(fresh('c', i));
            lines.add("club " + clubs.get(i));
        }
        roads(wild);
        int oneCount = of(3) == 0 ? 10 : 2 + of(easy ? 4 : 8);
        for (int i = 0; i < oneCount + spare; i++) {
            ones.add(fresh('o', i));
            StringBuilder line = new StringBuilder("one " + ones.get(i) + " " + (easy ? 2 + of(20) / 19 : 1 + of(5)) + " at " + any(fields));
            for (int k = of(easy ? 10 : 4) == 0 ? 1 + of(2) : 0; k > 0; k--) {
                String club = any(clubs);
                if (wild || !line.toString().contains(" no " + club)) {
                    line.append(" no ").append(club);
                }
            }
            lines.add(line.toString());
        }
        for (int i = of(4); i > 0; i--) {
            int day = of(7);
            lines.add("off " + any(ones) + " " + day + (of(2) == 0 ? " to " + (day + of(7 - day)) : ""));
        }
        if (of(3) > 0) {
            lines.add("rest " + new int[] {0, 5, 20, 120}[of(4)]);
        }
        if (of(3) > 0) {
            lines.add("most " + (1 + of(easy ? 2 : 4)));
        }
        if (of(4) > 0) {
            lines.add("fee " + sum(of(wild ? 7 : 5)));
        }
        games(spare);
        return join(wild);
    }

    private void roads(boolean wild) {
        boolean thin = of(4) == 0;
        boolean far = of(6) == 0;
        for (int a = 0; a < fields.size(); a++) {
            for (int b = a + 1; b < fields.size(); b++) {
                if (easy || of(10) < (thin ? 2 : 6)) {
                    boolean turned = of(2) == 0;
                    lines.add("road " + fields.get(turned ? b : a) + " " + fields.get(turned ? a : b) + " "
                        + (far ? 200 + of(41) : 1 + of(4) * 10));
                }
            }
        }
        if (wild && of(8) == 0 && !lines.isEmpty()) {
            lines.add(lines.get(of(lines.size())));
        }
    }

    private void games(int spare) {
        int days = easy ? 2 + of(3) : 1 + of(7);
        int games = of(3) == 0 ? 16 : 1 + of(16);
        boolean low = easy || of(2) == 0;
        int at = 0;
        for (int i = 0; i < games + (games == 16 ? spare : 0); i++) {
            String first = any(clubs);
            String second = any(clubs);
            for (int k = 0; k < 50 && second.equals(first); k++) {
                second = any(clubs);
            }
            at = of(3) == 0 ? of(1300) : (at + of(8) * 30) % 1300;
            lines.add("game " + first + " " + second + " at " + any(fields) + " on " + of(days) + " " + at + " for "
                + (10 + of(131)) + " grade " + (low ? 1 + of(easy ? 4 : 2) / (easy ? 2 : 1) : 1 + of(5)) + (of(2) == 0 ? "" : " by " + (1 + of(3))));
        }
    }

    private String sum(int depth) {
        StringBuilder sum = new StringBuilder(atom(depth));
        for (int i = of(4); i > 0; i--) {
            sum.append(of(2) == 0 ? " " : "").append("+-*/+-*/".charAt(of(8))).append(of(2) == 0 ? "\n" : "").append(atom(depth));
        }
        return sum.toString();
    }

    private String atom(int depth) {
        if (depth > 0 && of(3) == 0) {
            return "(" + sum(depth - 1) + ")";
        }
        if (of(2) == 0) {
            return Integer.toString(of(8) == 0 ? of(10000) : of(20));
        }
        return new String[] {"grade", "need", "seat", "lasts", "day", "begins", "way", "form"}[of(8)];
    }

    private String join(boolean wild) {
        StringBuilder text = new StringBuilder();
        for (String line : lines) {
            text.append(line).append(of(6) == 0 ? " ; \n" : ";");
        }
        return text.toString();
    }
}
