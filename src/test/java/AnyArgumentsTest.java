import java.util.ArrayList;
import java.util.List;
import java.util.TreeSet;

/** Every call with every mix of numbers at, beside and far beyond its edges, in weeks from none to full, against PlainRosters. */
public final class AnyArgumentsTest {
    /** A call, and of what sort each of its numbers is: a GAME, SEAT, OFFICIAL, FIELD, any, or from 0 up to a number. */
    private static final String[] CALLS = {"has 10", "letter 2 any 5", "one one 6", "formBits one", "game game 8",
        "seat game seat 1", "way field field", "toward field field", "hub", "why game seat one", "able game seat",
        "best game seat", "extra game seat one", "fee game seat one", "fees one", "crew game 3", "steps game seat 4",
        "unsound any", "exchange 4", "round one 6", "trip one 6 3", "spread 2", "rank one", "could game seat game seat",
        "swap game seat game seat", "drop game seat", "put game seat one", "fill", "mark game seat 100", "review 9 9",
        "shelf 2 1 20", "look 2 19", "lay 2 19 one 1", "look 2 19", "play any", "undo", "day", "fill", "fault 1",
        "end 1200", "feed any 0 0 0 any", "end 1200", "week", "fault 1", "has 10", "undo"};
    private static final int CALLS_OF_AN_OBJECT = 500;

    private final String state;
    private Twins twins;
    private int asked;
    private boolean fine = true;

    public static void main(String[] args) {
        int asked = 0;
        for (String state : new String[] {"nothing", "small", "full", "filled", "late", "over"}) {
            AnyArgumentsTest test = new AnyArgumentsTest(state);
            if (!test.run()) {
                System.exit(1);
            }
            asked += test.asked;
        }
        System.out.println("AnyArgumentsTest: " + asked + " calls agree");
    }

    private AnyArgumentsTest(String state) {
        this.state = state;
    }

    private boolean run() {
        begin();
        for (String call : CALLS) {
            String[] parts = call.split(" ");
            askAll(parts, new int[parts.length - 1], 0);
        }
        return fine;
    }

    private void begin() {
        twins = new Twins(state);
        if (state.equals("small")) {
            need(twins.feedText("field a;field b;club k;club l;one o 2 at a no k;game k l at b on 1 0 for 10 grade 2 by 2;fee 1/way;"));
            need(twins.same("week"));
        } else if (!state.equals("nothing")) {
            need(twins.feedText(fullWeek()));
            need(twins.same("week"));
        }
        if (state.equals("filled") || state.equals("late") || state.equals("over")) {
            need(twins.same("fill"));
            need(twins.same("shelf", 0, 0, 20) && twins.same("shelf", 1, 1, 20));
        }
        for (int d = -1; d < 2 && state.equals("late"); d++) {
            need(twins.same("day"));
        }
        for (int d = -1; d < 7 && state.equals("over"); d++) {
            need(twins.same("play", d * 12345));
        }
        if (state.equals("over")) {
            need(twins.same("review", 2, 2));
        }
    }

    private static String fullWeek() {
        StringBuilder text = new StringBuilder();
        for (char c = 'a'; c < 'g'; c++) {
            text.append("field ").append(c).append(';').append(c > 'a' ? "road a " + c + " " + (c - 'a') + ";" : "");
        }
        for (char c = 'g'; c < 'o'; c++) {
            text.append("club ").append(c).append(';');
        }
        for (char c = 'o'; c < 'y'; c++) {
            text.append("one ").append(c).append(' ').append(c < 'r' ? 3 : 2).append(" at ").append((char) ('a' + (c - 'o') % 6)).append(';');
        }
        text.append("most 4;rest 0;fee way*grade;");
        for (int g = 0; g < 16; g++) {
            text.append("game g n at ").append(g % 2 == 0 ? 'f' : 'a').append(" on ").append(g / 4).append(' ')
                .append(g % 4 * 100).append(" for 10 grade ").append(1 + g % 3).append(" by 3;");
        }
        return text.toString();
    }

    private void need(boolean same) {
        fine &= same;
    }

    private void askAll(String[] parts, int[] a, int from) {
        if (!fine) {
            return;
        }
        if (from == a.length) {
            if (twins.calls() >= CALLS_OF_AN_OBJECT) {
                begin();
            }
            need(twins.same(parts[0], a));
            asked++;
            return;
        }
        for (int value : values(parts[from + 1], a.length)) {
            a[from] = value;
            askAll(parts, a, from + 1);
        }
    }

    private List<Integer> values(String sort, int numbers) {
        TreeSet<Integer> values = new TreeSet<>(List.of(Integer.MIN_VALUE, -1, 0, 1, Integer.MAX_VALUE));
        switch (sort) {
            case "game": addEdge(values, twins.x.has(3)); addEdge(values, 16); break;
            case "seat": values.addAll(List.of(2, 3)); break;
            case "one": addEdge(values, twins.x.has(2)); addEdge(values, 10); break;
            case "field": addEdge(values, twins.x.has(0)); addEdge(values, 6); break;
            case "any": values.addAll(List.of(-2, 2, 7, 8, 9, 47, 48, 65535, 65536, -65536)); break;
            default: addEdge(values, Integer.parseInt(sort) + 1); values.add(Integer.parseInt(sort) / 2); values.add(-2); break;
        }
        if (numbers >= 4) {
            values.remove(Integer.MIN_VALUE);
        }
        return new ArrayList<>(values);
    }

    private static void addEdge(TreeSet<Integer> values, int count) {
        values.add(count - 1);
        values.add(count);
        values.add(count + 1);
    }
}
