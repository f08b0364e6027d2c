import java.math.BigInteger;
import java.util.ArrayDeque;
import java.util.ArrayList;
import java.util.Arrays;
import java.util.Comparator;
import java.util.Deque;
import java.util.HashMap;
import java.util.HashSet;
import java.util.List;
import java.util.Map;
import java.util.NoSuchElementException;
import java.util.Set;
import java.util.TreeSet;

/**
 * The document once more, in the plainest form and with the whole Java library: the random runs hold the class against
 * it. It shares no line and no way of working with the class: texts, lists and sets, nothing worked out ahead.
 */
final class PlainRosters {
    static final Set<String> OWN = new HashSet<>(Arrays.asList("field", "road", "club", "one", "at", "no", "off", "to",
        "game", "on", "for", "grade", "by", "rest", "most", "fee", "need", "seat", "lasts", "day", "begins", "way",
        "form"));
    static final Set<String> LAW_WORDS = new HashSet<>(Arrays.asList("grade", "need", "seat", "lasts", "day", "begins",
        "way", "form"));

    /** A fault of the tape on its way out of the reading. */
    static final class Fault extends Exception {
        private static final long serialVersionUID = 1;
        final int number;
        final int place;

        Fault(int number, int place) {
            this.number = number;
            this.place = place;
        }
    }

    /** A fee that can't be told. */
    static final class Untold extends Exception {
        private static final long serialVersionUID = 1;
    }

    static final class Match {
        String a;
        String b;
        String field;
        int day;
        int begins;
        int lasts;
        int grade;
        int seats = 1;
    }

    static final class Plan {
        final List<String> fields = new ArrayList<>();
        final List<String> clubs = new ArrayList<>();
        final List<String> ones = new ArrayList<>();
        final Map<String, Integer> roads = new HashMap<>();
        final Map<String, Integer> grades = new HashMap<>();
        final Map<String, String> homes = new HashMap<>();
        final Map<String, Set<String>> barred = new HashMap<>();
        final Map<String, Set<Integer>> off = new HashMap<>();
        final List<Match> games = new ArrayList<>();
        int rest = 10;
        int most = 3;
        List<String> law;

        int way(String from, String to) {
            return fewest(from, to, new HashSet<>());
        }

        private int fewest(String from, String to, Set<String> seen) {
            if (from.equals(to)) {
                return 0;
            }
            int best = -1;
            seen.add(from);
            for (String next : fields) {
                Integer minutes = roads.get(from + " " + next);
                if (minutes != null && !seen.contains(next)) {
                    int on = fewest(next, to, seen);
                    if (on >= 0 && (best < 0 || on + minutes < best)) {
                        best = on + minutes;
                    }
                }
            }
            seen.remove(from);
            return best;
        }

        int leg(String from, String to) {
            int way = way(from, to);
            return way < 0 ? 999 : way;
        }
    }

    /** What an act may change. */
    static final class State {
        final Map<Integer, Integer> who = new HashMap<>();
        final Map<Integer, Integer> marked = new HashMap<>();
        final List<Integer> grade = new ArrayList<>();
        final List<Float> form = new ArrayList<>();
        final List<Integer> marks = new ArrayList<>();
        int today = -1;

        State twin() {
            State s = new State();
            s.who.putAll(who);
            s.marked.putAll(marked);
            s.grade.addAll(grade);
            s.form.addAll(form);
            s.marks.addAll(marks);
            s.today = today;
            return s;
        }
    }

    private final List<Integer> tape = new ArrayList<>();
    private Plan plan = new Plan();
    private State state = new State();
    private final Deque<State> acts = new ArrayDeque<>();
    private int fault = 0;
    private int faultPlace = -1;
    private final Map<Integer, List<Object>> shelves = new HashMap<>();
    private final Map<Integer, Integer> shelfSorts = new HashMap<>();

    // ---- reading ----

    int feed(int... numbers) {
        if (tape.size() + 4 * numbers.length > 1200) {
            return -1;
        }
        for (int n : numbers) {
            for (int k = 3; k >= 0; k--) {
                tape.add(n >>> 8 * k & 255);
            }
        }
        return tape.size();
    }

    boolean end(int n) {
        if (n < 0 || n > tape.size()) {
            return false;
        }
        while (tape.size() > n) {
            tape.remove(tape.size() - 1);
        }
        return true;
    }

    int week() {
        StringBuilder text = new StringBuilder();
        for (int b : tape) {
            text.append((char) b);
        }
        tape.clear();
        try {
            Plan read = new PlainReader(text.toString()).read();
            plan = read;
            state = new State();
            for (String one : plan.ones) {
                state.grade.add(plan.grades.get(one));
                state.form.add(50f);
                state.marks.add(0);
            }
            acts.clear();
            fault = 0;
            faultPlace = -1;
            return plan.games.size();
        } catch (Fault f) {
            fault = f.number;
            faultPlace = f.place;
            return -1;
        }
    }

    /** Pieces of the text, each with its place. */
    static final class PlainReader {
        private final List<String> pieces = new ArrayList<>();
        private final List<Integer> places = new ArrayList<>();
        private int i = 0;
        private final Plan plan = new Plan();

        PlainReader(String text) {
            int p = 0;
            while (p < text.length()) {
                char c = text.charAt(p);
                int q = p + 1;
                if (c >= 'a' && c <= 'z') {
                    while (q < text.length() && text.charAt(q) >= 'a' && text.charAt(q) <= 'z') {
                        q++;
                    }
                } else if (c >= '0' && c <= '9') {
                    while (q < text.length() && text.charAt(q) >= '0' && text.charAt(q) <= '9') {
                        q++;
                    }
                }
                if (c != ' ' && c != 10) {
                    pieces.add(text.substring(p, q));
                    places.add(p);
                }
                p = q;
            }
            pieces.add("");
            places.add(text.length());
        }

        Plan read() throws Fault {
            while (!piece().isEmpty()) {
                line();
                must(";");
            }
            return plan;
        }

        private String piece() {
            return pieces.get(i);
        }

        private int place() {
            return places.get(i);
        }

        private void must(String what) throws Fault {
            if (!piece().equals(what)) {
                throw new Fault(1, place());
            }
            i++;
        }

        private boolean take(String what) {
            if (piece().equals(what)) {
                i++;
                return true;
            }
            return false;
        }

        private void line() throws Fault {
            int begin = place();
            String word = piece();
            switch (word) {
                case "field":
                    i++;
                    atMost(plan.fields.size(), 6, begin);
                    plan.fields.add(fresh());
                    break;
                case "club":
                    i++;
                    atMost(plan.clubs.size(), 8, begin);
                    plan.clubs.add(fresh());
                    break;
                case "road":
                    i++;
                    road();
                    break;
                case "one":
                    i++;
                    atMost(plan.ones.size(), 10, begin);
                    official();
                    break;
                case "off":
                    i++;
                    off();
                    break;
                case "game":
                    i++;
                    atMost(plan.games.size(), 16, begin);
                    match();
                    break;
                case "rest":
                    i++;
                    plan.rest = number(0, 120);
                    break;
                case "most":
                    i++;
                    plan.most = number(1, 4);
                    break;
                case "fee":
                    i++;
                    if (plan.law != null) {
                        throw new Fault(4, begin);
                    }
                    int from = i;
                    sum(0);
                    plan.law = new ArrayList<>(pieces.subList(from, i));
                    break;
                default:
                    throw new Fault(1, begin);
            }
        }

        private void atMost(int are, int may, int begin) throws Fault {
            if (are == may) {
                throw new Fault(4, begin);
            }
        }

        private void road() throws Fault {
            String a = known(plan.fields);
            int second = place();
            String b = known(plan.fields);
            if (a.equals(b) || plan.roads.containsKey(a + " " + b)) {
                throw new Fault(3, second);
            }
            int n = number(1, 240);
            plan.roads.put(a + " " + b, n);
            plan.roads.put(b + " " + a, n);
        }

        private void official() throws Fault {
            String name = fresh();
            plan.grades.put(name, number(1, 5));
            must("at");
            plan.homes.put(name, known(plan.fields));
            Set<String> no = new HashSet<>();
            while (take("no")) {
                int at = place();
                if (!no.add(known(plan.clubs))) {
                    throw new Fault(3, at);
                }
            }
            plan.ones.add(name);
            plan.barred.put(name, no);
            plan.off.put(name, new HashSet<>());
        }

        private void off() throws Fault {
            String name = known(plan.ones);
            int first = number(0, 6);
            int last = take("to") ? number(first, 6) : first;
            for (int d = first; d <= last; d++) {
                plan.off.get(name).add(d);
            }
        }

        private void match() throws Fault {
            Match m = new Match();
            m.a = known(plan.clubs);
            int second = place();
            m.b = known(plan.clubs);
            if (m.a.equals(m.b)) {
                throw new Fault(3, second);
            }
            must("at");
            m.field = known(plan.fields);
            must("on");
            m.day = number(0, 6);
            m.begins = number(0, 1299);
            must("for");
            m.lasts = number(10, 140);
            must("grade");
            m.grade = number(1, 5);
            if (take("by")) {
                m.seats = number(1, 3);
            }
            plan.games.add(m);
        }

        private void sum(int open) throws Fault {
            term(open);
            while (take("+") || take("-")) {
                term(open);
            }
        }

        private void term(int open) throws Fault {
            atom(open);
            while (take("*") || take("/")) {
                atom(open);
            }
        }

        private void atom(int open) throws Fault {
            if (piece().matches("[0-9]{1,4}") || LAW_WORDS.contains(piece())) {
                i++;
            } else if (piece().equals("(")) {
                if (open == 4) {
                    throw new Fault(5, place());
                }
                i++;
                sum(open + 1);
                must(")");
            } else {
                throw new Fault(1, place());
            }
        }

        private int number(int low, int high) throws Fault {
            if (!piece().matches("[0-9]{1,4}")) {
                throw new Fault(1, place());
            }
            int n = Integer.parseInt(piece());
            if (n < low || n > high) {
                throw new Fault(2, place());
            }
            i++;
            return n;
        }

        private String name() throws Fault {
            if (!piece().matches("[a-z]{1,6}") || OWN.contains(piece())) {
                throw new Fault(1, place());
            }
            return piece();
        }

        private String fresh() throws Fault {
            String name = name();
            if (plan.fields.contains(name) || plan.clubs.contains(name) || plan.ones.contains(name)) {
                throw new Fault(3, place());
            }
            i++;
            return name;
        }

        private String known(List<String> names) throws Fault {
            String name = name();
            if (!names.contains(name)) {
                throw new Fault(3, place());
            }
            i++;
            return name;
        }
    }

    int fault(int what) {
        return what == 0 ? fault : what == 1 ? faultPlace : -1;
    }

    // ---- what is there ----

    private boolean isGame(int g) {
        return g >= 0 && g < plan.games.size();
    }

    private boolean isSeat(int g, int s) {
        return isGame(g) && s >= 0 && s < plan.games.get(g).seats;
    }

    private boolean isOne(int o) {
        return o >= 0 && o < plan.ones.size();
    }

    private boolean isField(int f) {
        return f >= 0 && f < plan.fields.size();
    }

    private Integer who(int g, int s) {
        return state.who.get(3 * g + s);
    }

    private boolean played(int g) {
        return plan.games.get(g).day < state.today;
    }

    private boolean late(int g) {
        return plan.games.get(g).day == state.today;
    }

    private String home(int o) {
        return plan.homes.get(plan.ones.get(o));
    }

    int has(int what) {
        switch (what) {
            case 0: return plan.fields.size();
            case 1: return plan.clubs.size();
            case 2: return plan.ones.size();
            case 3: return plan.games.size();
            case 4: return plan.rest;
            case 5: return plan.most;
            case 6: return state.today;
            case 7: return plan.games.stream().mapToInt(m -> m.seats).sum();
            case 8: return state.who.size();
            case 9: return acts.size();
            case 10: return tape.size();
            default: return -2;
        }
    }

    int letter(int sort, int which, int i) {
        List<String> names = sort == 0 ? plan.fields : sort == 1 ? plan.clubs : sort == 2 ? plan.ones : new ArrayList<>();
        if (which < 0 || which >= names.size() || i < 0 || i >= names.get(which).length()) {
            return -1;
        }
        return names.get(which).charAt(i) - 'a';
    }

    int one(int o, int what) {
        if (!isOne(o)) {
            return -2;
        }
        int bits = 0;
        switch (what) {
            case 0: return state.grade.get(o);
            case 1: return plan.fields.indexOf(home(o));
            case 2:
                for (String club : plan.barred.get(plan.ones.get(o))) {
                    bits += 1 << plan.clubs.indexOf(club);
                }
                return bits;
            case 3:
                for (int day : plan.off.get(plan.ones.get(o))) {
                    bits += 1 << day;
                }
                return bits;
            case 4: return state.marks.get(o);
            case 5: return (int) (float) state.form.get(o);
            case 6: return (int) state.who.values().stream().filter(w -> w == o).count();
            default: return -2;
        }
    }

    int formBits(int o) {
        return isOne(o) ? Float.floatToIntBits(state.form.get(o)) : -1;
    }

    int game(int g, int what) {
        if (!isGame(g)) {
            return -1;
        }
        Match m = plan.games.get(g);
        switch (what) {
            case 0: return plan.clubs.indexOf(m.a);
            case 1: return plan.clubs.indexOf(m.b);
            case 2: return plan.fields.indexOf(m.field);
            case 3: return m.day;
            case 4: return m.begins;
            case 5: return m.lasts;
            case 6: return m.grade;
            case 7: return m.seats;
            case 8: return played(g) ? 2 : late(g) ? 1 : 0;
            default: return -1;
        }
    }

    int seat(int g, int s, int what) {
        if (!isSeat(g, s) || what < 0 || what > 1) {
            return -2;
        }
        return (what == 0 ? state.who : state.marked).getOrDefault(3 * g + s, -1);
    }

    int way(int from, int to) {
        return isField(from) && isField(to) ? plan.way(plan.fields.get(from), plan.fields.get(to)) : -1;
    }

    int toward(int from, int to) {
        if (from == to || way(from, to) < 0) {
            return -1;
        }
        for (int f = 0; f < plan.fields.size(); f++) {
            Integer n = plan.roads.get(plan.fields.get(from) + " " + plan.fields.get(f));
            if (n != null && way(f, to) >= 0 && n + way(f, to) == way(from, to)) {
                return f;
            }
        }
        throw new IllegalStateException();
    }

    int hub() {
        int best = -1;
        int bestSum = Integer.MAX_VALUE;
        for (String f : plan.fields) {
            int sum = plan.fields.stream().mapToInt(t -> plan.leg(f, t)).sum();
            if (sum < bestSum) {
                bestSum = sum;
                best = plan.fields.indexOf(f);
            }
        }
        return best;
    }

    // ---- one seat ----

    private List<Integer> gamesOn(int o, int day) {
        Set<Integer> games = new TreeSet<>();
        state.who.forEach((place, w) -> {
            if (w == o && plan.games.get(place / 3).day == day) {
                games.add(place / 3);
            }
        });
        List<Integer> list = new ArrayList<>(games);
        list.sort(Comparator.comparingInt(g -> plan.games.get(g).begins));
        return list;
    }

    private int whyButPlayed(int g, int s, int o) {
        Match m = plan.games.get(g);
        if (who(g, s) != null) {
            return 3;
        }
        for (int t = 0; t < m.seats; t++) {
            if (who(g, t) != null && who(g, t) == o) {
                return 4;
            }
        }
        if (state.grade.get(o) < (s == 0 ? m.grade : Math.max(1, m.grade - 1))) {
            return 5;
        }
        Set<String> no = plan.barred.get(plan.ones.get(o));
        if (no.contains(m.a) || no.contains(m.b)) {
            return 6;
        }
        if (plan.off.get(plan.ones.get(o)).contains(m.day)) {
            return 7;
        }
        List<Integer> others = gamesOn(o, m.day);
        if (others.size() >= plan.most) {
            return 8;
        }
        for (int h : others) {
            Match n = plan.games.get(h);
            if (m.begins < n.begins + n.lasts && n.begins < m.begins + m.lasts) {
                return 9;
            }
        }
        if (plan.way(home(o), m.field) < 0) {
            return 10;
        }
        Set<String> fields = new HashSet<>();
        fields.add(m.field);
        for (int h : others) {
            Match n = plan.games.get(h);
            int between = n.begins >= m.begins + m.lasts ? n.begins - m.begins - m.lasts : m.begins - n.begins - n.lasts;
            if (between < plan.way(m.field, n.field) + plan.rest) {
                return 10;
            }
            fields.add(n.field);
        }
        return fields.size() > 2 ? 11 : 0;
    }

    int why(int g, int s, int o) {
        if (!isSeat(g, s) || !isOne(o)) {
            return 1;
        }
        return played(g) ? 2 : whyButPlayed(g, s, o);
    }

    private void act() {
        acts.addLast(state.twin());
        if (acts.size() > 8) {
            acts.removeFirst();
        }
    }

    int put(int g, int s, int o) {
        int why = why(g, s, o);
        if (why == 1 || why == 2) {
            return -why;
        }
        if (late(g)) {
            return -12;
        }
        if (why == 0) {
            act();
            state.who.put(3 * g + s, o);
        }
        return -why;
    }

    int drop(int g, int s) {
        if (!isSeat(g, s) || who(g, s) == null || played(g) || late(g)) {
            return -2;
        }
        act();
        return state.who.remove(3 * g + s);
    }

    int could(int g, int s, int h, int t) {
        if (!isSeat(g, s) || !isSeat(h, t)) {
            return -1;
        }
        if (played(g) || played(h)) {
            return -2;
        }
        if (who(g, s) == null || who(h, t) == null) {
            return -3;
        }
        int a = who(g, s);
        int b = who(h, t);
        if (g == h || a == b) {
            return -4;
        }
        if (!state.grade.get(a).equals(state.grade.get(b))) {
            return -5;
        }
        state.who.remove(3 * g + s);
        state.who.remove(3 * h + t);
        boolean fine = why(g, s, b) == 0 && why(h, t, a) == 0;
        state.who.put(3 * g + s, a);
        state.who.put(3 * h + t, b);
        return fine ? 0 : -6;
    }

    int swap(int g, int s, int h, int t) {
        int could = could(g, s, h, t);
        if (could == 0) {
            act();
            int a = who(g, s);
            state.who.put(3 * g + s, who(h, t));
            state.who.put(3 * h + t, a);
        }
        return could;
    }

    int able(int g, int s) {
        if (!isSeat(g, s)) {
            return -1;
        }
        int bits = 0;
        for (int o = 0; o < plan.ones.size(); o++) {
            bits += why(g, s, o) == 0 ? 1 << o : 0;
        }
        return bits;
    }

    int round(int o, int day) {
        if (!isOne(o) || day < 0 || day > 6) {
            return -1;
        }
        List<Integer> games = gamesOn(o, day);
        if (games.isEmpty()) {
            return 0;
        }
        List<String> stops = new ArrayList<>();
        stops.add(home(o));
        for (int g : games) {
            stops.add(plan.games.get(g).field);
        }
        stops.add(home(o));
        int sum = 0;
        for (int i = 1; i < stops.size(); i++) {
            sum += plan.leg(stops.get(i - 1), stops.get(i));
        }
        return sum;
    }

    int extra(int g, int s, int o) {
        if (!isSeat(g, s) || !isOne(o)) {
            return -1;
        }
        int day = plan.games.get(g).day;
        Integer had = who(g, s);
        int with;
        int without;
        state.who.remove(3 * g + s);
        without = round(o, day);
        state.who.put(3 * g + s, o);
        with = round(o, day);
        state.who.remove(3 * g + s);
        if (had != null) {
            state.who.put(3 * g + s, had);
        }
        return with - without;
    }

    long fee(int g, int s, int o) {
        if (!isSeat(g, s) || !isOne(o)) {
            return Long.MIN_VALUE;
        }
        if (plan.law == null) {
            return 0;
        }
        Match m = plan.games.get(g);
        Map<String, Integer> asked = new HashMap<>();
        asked.put("grade", state.grade.get(o));
        asked.put("need", s == 0 ? m.grade : Math.max(1, m.grade - 1));
        asked.put("seat", s);
        asked.put("lasts", m.lasts);
        asked.put("day", m.day);
        asked.put("begins", m.begins);
        asked.put("form", (int) (float) state.form.get(o));
        if (plan.way(home(o), m.field) >= 0) {
            asked.put("way", plan.way(home(o), m.field));
        }
        try {
            return new Teller(plan.law, asked).sum().longValueExact();
        } catch (Untold u) {
            return Long.MIN_VALUE;
        }
    }

    static final class Teller {
        private final List<String> law;
        private final Map<String, Integer> asked;
        private int i = 0;

        Teller(List<String> law, Map<String, Integer> asked) {
            this.law = law;
            this.asked = asked;
        }

        private boolean is(String sign) {
            return i < law.size() && law.get(i).equals(sign);
        }

        private BigInteger within(BigInteger n) throws Untold {
            if (n.bitLength() > 31) {
                throw new Untold();
            }
            return n;
        }

        BigInteger sum() throws Untold {
            BigInteger n = term();
            while (is("+") || is("-")) {
                boolean plus = law.get(i++).equals("+");
                BigInteger m = term();
                n = within(plus ? n.add(m) : n.subtract(m));
            }
            return n;
        }

        private BigInteger term() throws Untold {
            BigInteger n = atom();
            while (is("*") || is("/")) {
                boolean times = law.get(i++).equals("*");
                BigInteger m = atom();
                n = within(times ? n.multiply(m) : below(n, m));
            }
            return n;
        }

        private BigInteger below(BigInteger n, BigInteger m) throws Untold {
            if (m.signum() == 0) {
                throw new Untold();
            }
            BigInteger[] parts = n.divideAndRemainder(m);
            boolean cut = parts[1].signum() != 0 && parts[1].signum() != m.signum();
            return cut ? parts[0].subtract(BigInteger.ONE) : parts[0];
        }

        private BigInteger atom() throws Untold {
            String piece = law.get(i++);
            if (piece.equals("(")) {
                BigInteger n = sum();
                i++;
                return n;
            }
            if (piece.matches("[0-9]+")) {
                return new BigInteger(piece);
            }
            if (!asked.containsKey(piece)) {
                throw new Untold();
            }
            return BigInteger.valueOf(asked.get(piece));
        }
    }

    long fees(int o) {
        if (o != -1 && !isOne(o)) {
            return Long.MIN_VALUE;
        }
        long sum = 0;
        for (Map.Entry<Integer, Integer> e : state.who.entrySet()) {
            long fee = fee(e.getKey() / 3, e.getKey() % 3, e.getValue());
            if ((o == -1 || e.getValue() == o) && fee != Long.MIN_VALUE) {
                sum += fee;
            }
        }
        return sum;
    }

    int best(int g, int s) {
        List<Integer> may = new ArrayList<>();
        for (int o = 0; o < plan.ones.size(); o++) {
            if (why(g, s, o) == 0) {
                may.add(o);
            }
        }
        may.sort(Comparator.<Integer>comparingInt(o -> extra(g, s, o))
            .thenComparingInt(o -> fee(g, s, o) == Long.MIN_VALUE ? 1 : 0)
            .thenComparingLong(o -> fee(g, s, o))
            .thenComparingInt(o -> o));
        return may.isEmpty() ? -1 : may.get(0);
    }

    // ---- many seats ----

    int crew(int g, int what) {
        if (!isGame(g) || played(g)) {
            return -1;
        }
        List<int[]> all = new ArrayList<>();
        crews(g, 0, 0, all);
        if (all.isEmpty() || what < 0 || what > plan.games.get(g).seats) {
            return -1;
        }
        int[] best = all.get(0);
        for (int[] crew : all) {
            best = crew[0] < best[0] ? crew : best;
        }
        return best[what];
    }

    private void crews(int g, int s, int sum, List<int[]> all) {
        int seats = plan.games.get(g).seats;
        if (s == seats) {
            int[] crew = new int[1 + seats];
            crew[0] = sum;
            for (int t = 0; t < seats; t++) {
                crew[1 + t] = who(g, t);
            }
            all.add(crew);
        } else if (who(g, s) != null) {
            crews(g, s + 1, sum, all);
        } else {
            for (int o = 0; o < plan.ones.size(); o++) {
                if (why(g, s, o) == 0) {
                    int extra = extra(g, s, o);
                    state.who.put(3 * g + s, o);
                    crews(g, s + 1, sum + extra, all);
                    state.who.remove(3 * g + s);
                }
            }
        }
    }

    private int puts;

    int fill() {
        List<Integer> open = new ArrayList<>();
        for (int g = 0; g < plan.games.size(); g++) {
            for (int s = 0; s < plan.games.get(g).seats; s++) {
                if (!played(g) && !late(g) && who(g, s) == null) {
                    open.add(3 * g + s);
                }
            }
        }
        if (open.isEmpty()) {
            return 0;
        }
        State ahead = state;
        state = state.twin();
        puts = 0;
        boolean filled = fillFrom(open, 0);
        State then = state;
        state = ahead;
        if (puts > 20000) {
            return -2;
        }
        if (!filled) {
            return -1;
        }
        act();
        state = then;
        return open.size();
    }

    private boolean fillFrom(List<Integer> open, int k) {
        if (k == open.size()) {
            return true;
        }
        int g = open.get(k) / 3;
        int s = open.get(k) % 3;
        for (int o = 0; o < plan.ones.size() && puts <= 20000; o++) {
            if (why(g, s, o) == 0) {
                state.who.put(3 * g + s, o);
                puts++;
                if (fillFrom(open, k + 1)) {
                    return true;
                }
                state.who.remove(3 * g + s);
            }
        }
        return false;
    }

    int steps(int g, int s, int what) {
        if (!isSeat(g, s) || who(g, s) == null || played(g) || what < 0 || what > 4) {
            return -1;
        }
        int gone = state.who.remove(3 * g + s);
        int[] found = stepsInto(g, s, gone);
        state.who.put(3 * g + s, gone);
        return found[what];
    }

    private int[] stepsInto(int g, int s, int gone) {
        for (int o = 0; o < plan.ones.size(); o++) {
            if (o != gone && why(g, s, o) == 0) {
                return new int[] {1, o, -1, -1, -1};
            }
        }
        for (int o = 0; o < plan.ones.size(); o++) {
            for (int h = 0; h < plan.games.size(); h++) {
                for (int t = 0; t < plan.games.get(h).seats; t++) {
                    if (o != gone && h != g && !played(h) && who(h, t) != null && who(h, t) == o) {
                        state.who.remove(3 * h + t);
                        int follower = -1;
                        if (why(g, s, o) == 0) {
                            state.who.put(3 * g + s, o);
                            for (int f = plan.ones.size() - 1; f >= 0; f--) {
                                follower = f != gone && f != o && why(h, t, f) == 0 ? f : follower;
                            }
                            state.who.remove(3 * g + s);
                        }
                        state.who.put(3 * h + t, o);
                        if (follower >= 0) {
                            return new int[] {2, o, h, t, follower};
                        }
                    }
                }
            }
        }
        return new int[] {-1, -1, -1, -1, -1};
    }

    int unsound(int i) {
        List<Integer> places = new ArrayList<>();
        for (int place : new TreeSet<>(state.who.keySet())) {
            int o = state.who.remove(place);
            if (whyButPlayed(place / 3, place % 3, o) != 0) {
                places.add(place);
            }
            state.who.put(place, o);
        }
        return i == -1 ? places.size() : i >= 0 && i < places.size() ? places.get(i) : -1;
    }

    private int allRounds() {
        int sum = 0;
        for (int o = 0; o < plan.ones.size(); o++) {
            for (int d = 0; d < 7; d++) {
                sum += round(o, d);
            }
        }
        return sum;
    }

    int exchange(int what) {
        if (what < 0 || what > 4) {
            return -2;
        }
        int now = allRounds();
        int[] best = {0, -1, -1, -1, -1};
        for (int p = 0; p < 3 * plan.games.size(); p++) {
            for (int q = p + 1; q < 3 * plan.games.size(); q++) {
                if (could(p / 3, p % 3, q / 3, q % 3) == 0) {
                    int a = state.who.get(p);
                    int b = state.who.get(q);
                    state.who.put(p, b);
                    state.who.put(q, a);
                    int shorter = now - allRounds();
                    state.who.put(p, a);
                    state.who.put(q, b);
                    if (shorter > best[0]) {
                        best = new int[] {shorter, p / 3, p % 3, q / 3, q % 3};
                    }
                }
            }
        }
        return best[what];
    }

    int trip(int o, int day, int what) {
        if (!isOne(o) || day < 0 || day > 6 || what < 0 || what > 3) {
            return -10000;
        }
        List<Integer> games = gamesOn(o, day);
        if (what == 3) {
            return games.size();
        }
        if (what == 2) {
            Set<String> fields = new HashSet<>();
            games.forEach(g -> fields.add(plan.games.get(g).field));
            return fields.stream().mapToInt(f -> 1 << plan.fields.indexOf(f)).sum();
        }
        if (games.isEmpty()) {
            return -10000;
        }
        Match first = plan.games.get(games.get(0));
        Match last = plan.games.get(games.get(games.size() - 1));
        Match m = what == 0 ? first : last;
        int way = plan.way(home(o), m.field);
        if (way < 0) {
            return -10000;
        }
        return what == 0 ? m.begins - plan.rest - way : m.begins + m.lasts + way;
    }

    int spread(int what) {
        if (plan.ones.isEmpty() || what < 0 || what > 2) {
            return -1;
        }
        List<Integer> seats = new ArrayList<>();
        for (int o = 0; o < plan.ones.size(); o++) {
            seats.add(one(o, 6));
        }
        int most = seats.stream().max(Comparator.naturalOrder()).get();
        int few = seats.stream().min(Comparator.naturalOrder()).get();
        return what == 0 ? most - few : seats.indexOf(what == 1 ? most : few);
    }

    // ---- days and marks ----

    int day() {
        if (state.today == 7) {
            return -1;
        }
        act();
        return ++state.today;
    }

    private void giveMark(int place, int m) {
        int o = state.who.get(place);
        float kept = state.form.get(o) * 0.75f;
        float added = (float) m * 0.25f;
        state.form.set(o, kept + added);
        state.marks.set(o, state.marks.get(o) + 1);
        state.marked.put(place, m);
    }

    int play(int seed) {
        if (state.today == 7) {
            return -1;
        }
        act();
        int z = seed;
        int count = 0;
        for (int place : new TreeSet<>(state.who.keySet())) {
            if (plan.games.get(place / 3).day == state.today) {
                z = (int) (1103515245L * z + 12345L);
                giveMark(place, (int) ((z & 0xffffffffL) / 65536 % 101));
                count++;
            }
        }
        state.today++;
        return count;
    }

    int mark(int g, int s, int m) {
        if (!isSeat(g, s) || who(g, s) == null || !played(g) || state.marked.containsKey(3 * g + s) || m < 0 || m > 100) {
            return -1;
        }
        act();
        giveMark(3 * g + s, m);
        return one(who(g, s), 5);
    }

    private List<Integer> ranking() {
        List<Integer> order = new ArrayList<>();
        for (int o = 0; o < plan.ones.size(); o++) {
            order.add(o);
        }
        order.sort(Comparator.<Integer>comparingDouble(o -> -state.form.get(o)).thenComparingInt(o -> -state.marks.get(o)));
        return order;
    }

    int rank(int i) {
        return isOne(i) ? ranking().get(i) : -1;
    }

    int review(int up, int down) {
        if (up < 0 || up > 9 || down < 0 || down > 9) {
            return -1;
        }
        List<Integer> order = ranking();
        List<Integer> rise = new ArrayList<>();
        List<Integer> fall = new ArrayList<>();
        for (int grade = 1; grade <= 5; grade++) {
            List<Integer> good = new ArrayList<>();
            List<Integer> bad = new ArrayList<>();
            for (int o : order) {
                if (state.grade.get(o) == grade && state.marks.get(o) >= 2) {
                    if (state.form.get(o) >= 60f && grade < 5) {
                        good.add(o);
                    }
                    if (state.form.get(o) < 40f && grade > 1) {
                        bad.add(o);
                    }
                }
            }
            rise.addAll(good.subList(0, Math.min(up, good.size())));
            fall.addAll(bad.subList(Math.max(0, bad.size() - down), bad.size()));
        }
        act();
        rise.forEach(o -> state.grade.set(o, state.grade.get(o) + 1));
        fall.forEach(o -> state.grade.set(o, state.grade.get(o) - 1));
        state.marks.replaceAll(m -> 0);
        return rise.size() + fall.size();
    }

    int undo() {
        if (acts.isEmpty()) {
            return -1;
        }
        state = acts.removeLast();
        return acts.size();
    }

    // ---- shelves ----

    int shelf(int shelf, int sort, int many) {
        if (shelf < 0 || shelf > 2) {
            throw new NoSuchElementException();
        }
        if (sort < 0 || sort > 1 || many < 0 || many > 20) {
            throw new IllegalArgumentException();
        }
        List<Object> places = new ArrayList<>();
        while (places.size() < many) {
            places.add(null);
        }
        shelves.put(shelf, places);
        shelfSorts.put(shelf, sort);
        return many;
    }

    private List<Object> places(int shelf, int place) {
        List<Object> places = shelves.get(shelf);
        if (places == null || place < 0 || place >= places.size()) {
            throw new NoSuchElementException();
        }
        return places;
    }

    boolean lay(int shelf, int place, int o, boolean named) {
        List<Object> places = places(shelf, place);
        if (!isOne(o)) {
            throw new NoSuchElementException();
        }
        if (shelfSorts.get(shelf) != (named ? 1 : 0)) {
            return false;
        }
        places.set(place, named ? (Object) plan.ones.get(o) : (Object) formBits(o));
        return true;
    }

    long look(int shelf, int place) {
        Object lies = places(shelf, place).get(place);
        if (lies instanceof Integer) {
            return (Integer) lies;
        }
        if (lies == null) {
            return -1;
        }
        long sum = 0;
        for (char c : ((String) lies).toCharArray()) {
            sum = sum * 27 + (c - 'a' + 1);
        }
        return sum;
    }
}
