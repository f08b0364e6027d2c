import java.util.ArrayList;
import java.util.List;
import java.util.NoSuchElementException;
import java.util.Random;

/** Random runs of at most 512 calls, each answer held against PlainRosters. */
public final class RandomRunsTest {
    private static final String[] NAMES = {"has", "letter", "one", "formBits", "game", "seat", "way", "toward", "hub",
        "why", "put", "drop", "swap", "could", "able", "best", "extra", "fee", "fees", "crew", "fill", "steps",
        "unsound", "exchange", "round", "trip", "spread", "day", "play", "mark", "review", "rank", "undo", "shelf", "lay",
        "look", "end", "feed", "week", "fault"};
    private static final int[] WEIGHT = {2, 1, 3, 1, 2, 4, 1, 1, 1, 6, 40, 3, 12, 8, 3, 3, 3, 3, 1, 4, 1, 8, 3, 3, 2, 4,
        1, 2, 3, 10, 3, 2, 3, 1, 2, 2, 0, 0, 0, 1};
    private static final long THREW_NONE_SUCH = Long.MAX_VALUE;
    private static final long THREW_ILLEGAL = Long.MAX_VALUE - 1;

    public static void main(String[] args) {
        int runs = args.length > 0 ? Integer.parseInt(args[0]) : 1500;
        int first = args.length > 1 ? Integer.parseInt(args[1]) : 0;
        for (int seed = first; seed < first + runs; seed++) {
            if (!new RandomRunsTest(seed).run()) {
                System.exit(1);
            }
        }
        System.out.println("RandomRunsTest: " + runs + " runs agree");
    }

    private final Random random;
    private final int seed;
    private final WhistleRoster x = new WhistleRoster();
    private final PlainRosters y = new PlainRosters();
    private final List<String> told = new ArrayList<>();
    private int pace;

    private RandomRunsTest(int seed) {
        this.seed = seed;
        random = new Random(seed * 7919L + 13);
    }

    private boolean run() {
        int calls = 0;
        int until = 0;
        boolean busy = random.nextInt(3) > 0;
        pace = random.nextInt(4);
        while (calls < 450) {
            if (calls >= until) {
                String text = random.nextInt(4) == 0 ? WeekTexts.broken(random) : WeekTexts.fine(random);
                told.add(text);
                if (!feedText(text) || !same(38, new int[4]) || !same(39, new int[] {0}) || !same(39, new int[] {1})) {
                    return false;
                }
                calls += 64;
                until = calls + random.nextInt(300);
                if (busy && random.nextBoolean() && !same(20, new int[4])) {
                    return false;
                }
            }
            if (calls + 120 < 450 && random.nextInt(150) == 0) {
                if (!season()) {
                    return false;
                }
                calls += 120;
            }
            if (calls + 200 < 450 && random.nextInt(200) == 0) {
                if (!crowd()) {
                    return false;
                }
                calls += 200;
            }
            int kind = pick();
            if (!same(kind, arguments(kind))) {
                return false;
            }
            calls++;
        }
        return true;
    }

    /** Seats are taken, some days go by, marks are given, most of them high or low, and grades change. */
    private boolean season() {
        int games = x.has(3);
        for (int i = 0; i < 50; i++) {
            if (!same(10, new int[] {random.nextInt(games + 1), random.nextInt(3), random.nextInt(10)})) {
                return false;
            }
        }
        for (int i = random.nextInt(4); i >= 0; i--) {
            if (!same(random.nextInt(4) == 0 ? 28 : 27, new int[] {random.nextInt()})) {
                return false;
            }
        }
        for (int i = 0; i < 40; i++) {
            int place = taken(true);
            int high = place % 3 == 0 || random.nextInt(5) == 0 ? 100 : 1;
            if (!same(29, new int[] {place / 3, place % 3, high - random.nextInt(2)})) {
                return false;
            }
        }
        return same(30, new int[] {random.nextInt(10), random.nextInt(10)}) && same(22, new int[] {-1})
            && same(22, new int[] {0}) && same(22, new int[] {1});
    }

    /** Every seat is taken that can be, so that who steps in must often leave a seat. */
    private boolean crowd() {
        for (int place = 0; place < 3 * x.has(3); place++) {
            int from = random.nextInt(10);
            int able = x.able(place / 3, place % 3);
            for (int o = from; able > 0 && o < from + 10; o++) {
                if ((able >> o % 10 & 1) != 0) {
                    if (!same(10, new int[] {place / 3, place % 3, o % 10})) {
                        return false;
                    }
                    break;
                }
            }
        }
        for (int place = 0; place < 3 * x.has(3); place++) {
            for (int what = 0; what < 5 && x.seat(place / 3, place % 3, 0) >= 0; what++) {
                if (!same(21, new int[] {place / 3, place % 3, what})) {
                    return false;
                }
            }
        }
        boolean fine = true;
        for (int what = 0; what < 5; what++) {
            fine &= same(23, new int[] {what});
        }
        return fine;
    }

    private boolean feedText(String text) {
        int[] n = new int[5];
        for (int at = 0; at < text.length(); at += 20) {
            for (int k = 0; k < 20; k++) {
                char c = at + k < text.length() ? text.charAt(at + k) : 0;
                n[k / 4] = n[k / 4] << 8 | c;
            }
            if (!same(37, n)) {
                return false;
            }
        }
        return same(36, new int[] {text.length() + 1300}) && same(36, new int[] {-1}) && same(36, new int[] {text.length()});
    }

    /** Days go by in some runs alone, and marks are given mostly there. */
    private int weight(int kind) {
        boolean ofDays = kind == 27 || kind == 28;
        boolean ofMarks = kind == 29 || kind == 30;
        return ofDays ? WEIGHT[kind] * pace / 2 : ofMarks && x.has(6) > 0 ? WEIGHT[kind] * 2 : WEIGHT[kind];
    }

    private int pick() {
        int sum = 0;
        for (int kind = 0; kind < WEIGHT.length; kind++) {
            sum += weight(kind);
        }
        int at = random.nextInt(sum);
        int kind = 0;
        while (at >= weight(kind)) {
            at -= weight(kind);
            kind++;
        }
        return kind;
    }

    /** A seat as 3 times game and seat: one that is taken (and played, and without a mark), if there is such. */
    private int taken(boolean unmarked) {
        List<Integer> places = new ArrayList<>();
        for (int place = 0; place < 48; place++) {
            if (x.seat(place / 3, place % 3, 0) >= 0) {
                boolean markable = x.game(place / 3, 8) == 2 && x.seat(place / 3, place % 3, 1) < 0;
                if (!unmarked || markable) {
                    places.add(place);
                }
            }
        }
        return places.isEmpty() ? 0 : places.get(random.nextInt(places.size()));
    }

    private int near(int count) {
        int wild = random.nextInt(60);
        if (wild == 0) {
            return random.nextInt();
        }
        if (wild <= 3 || count <= 0) {
            return random.nextInt(Math.max(count, 0) + 3) - 1;
        }
        return random.nextInt(count);
    }

    private int[] arguments(int kind) {
        int games = x.has(3);
        int ones = x.has(2);
        int fields = x.has(0);
        boolean aimed = random.nextInt(5) > 0;
        int place = aimed ? taken(NAMES[kind].equals("mark")) : 0;
        int other = aimed ? taken(false) : 0;
        switch (aimed ? NAMES[kind] : "") {
            case "swap": case "could": return new int[] {place / 3, place % 3, other / 3, other % 3};
            case "mark": return new int[] {place / 3, place % 3, random.nextInt(3) * 50};
            case "steps": return new int[] {place / 3, place % 3, near(5)};
            case "drop": case "extra": case "fee": return new int[] {place / 3, place % 3, near(ones)};
            case "review": return new int[] {random.nextInt(3), random.nextInt(3)};
            default: return anyArguments(kind, games, ones, fields);
        }
    }

    private int[] anyArguments(int kind, int games, int ones, int fields) {
        switch (NAMES[kind]) {
            case "has": return new int[] {near(11)};
            case "letter": return new int[] {near(3), near(8), near(6)};
            case "one": return new int[] {near(ones), near(7)};
            case "formBits": case "rank": return new int[] {near(ones)};
            case "fees": return new int[] {near(ones + 1) - 1};
            case "game": return new int[] {near(games), near(9)};
            case "seat": return new int[] {near(games), near(3), near(2)};
            case "way": case "toward": return new int[] {near(fields), near(fields)};
            case "swap": case "could": return new int[] {near(games), near(2), near(games), near(2)};
            case "crew": return new int[] {near(games), near(4)};
            case "steps": return new int[] {near(games), near(2), near(5)};
            case "unsound": return new int[] {near(10) - 1};
            case "exchange": return new int[] {near(5)};
            case "round": return new int[] {near(ones), near(7)};
            case "trip": return new int[] {near(ones), near(7), near(4)};
            case "spread": return new int[] {near(3)};
            case "mark": return new int[] {near(games), near(2), near(101)};
            case "review": return new int[] {near(10), near(10)};
            case "shelf": return new int[] {near(3), near(2), near(21)};
            case "lay": return new int[] {near(3), near(10), near(ones), near(2)};
            case "look": return new int[] {near(3), near(10)};
            case "play": return new int[] {random.nextInt()};
            case "fault": return new int[] {near(2)};
            default: return new int[] {near(games), near(2), near(ones), 0};
        }
    }

    private boolean same(int kind, int[] a) {
        long due;
        try {
            due = askPlain(kind, a);
        } catch (NoSuchElementException e) {
            due = THREW_NONE_SUCH;
        } catch (IllegalArgumentException e) {
            due = THREW_ILLEGAL;
        }
        long got;
        try {
            got = ask(kind, a);
        } catch (NoSuchElementException e) {
            got = THREW_NONE_SUCH;
        } catch (IllegalArgumentException e) {
            got = THREW_ILLEGAL;
        }
        StringBuilder call = new StringBuilder(NAMES[kind]).append('(');
        for (int n : a) {
            call.append(n).append(' ');
        }
        told.add(call.append(") ").append(due).toString());
        if (got != due) {
            told.forEach(System.out::println);
            System.out.println("seed " + seed + ": the last call answered " + got);
        }
        return got == due;
    }

    private long ask(int kind, int[] a) {
        switch (NAMES[kind]) {
            case "has": return x.has(a[0]);
            case "letter": return x.letter(a[0], a[1], a[2]);
            case "one": return x.one(a[0], a[1]);
            case "formBits": return x.formBits(a[0]);
            case "game": return x.game(a[0], a[1]);
            case "seat": return x.seat(a[0], a[1], a[2]);
            case "way": return x.way(a[0], a[1]);
            case "toward": return x.toward(a[0], a[1]);
            case "hub": return x.hub();
            case "why": return x.why(a[0], a[1], a[2]);
            case "put": return x.put(a[0], a[1], a[2]);
            case "drop": return x.drop(a[0], a[1]);
            case "swap": return x.swap(a[0], a[1], a[2], a[3]);
            case "could": return x.could(a[0], a[1], a[2], a[3]);
            case "able": return x.able(a[0], a[1]);
            case "best": return x.best(a[0], a[1]);
            case "extra": return x.extra(a[0], a[1], a[2]);
            case "fee": return x.fee(a[0], a[1], a[2]);
            case "fees": return x.fees(a[0]);
            case "crew": return x.crew(a[0], a[1]);
            case "fill": return x.fill();
            case "steps": return x.steps(a[0], a[1], a[2]);
            case "unsound": return x.unsound(a[0]);
            case "exchange": return x.exchange(a[0]);
            case "round": return x.round(a[0], a[1]);
            case "trip": return x.trip(a[0], a[1], a[2]);
            case "spread": return x.spread(a[0]);
            case "day": return x.day();
            case "play": return x.play(a[0]);
            case "mark": return x.mark(a[0], a[1], a[2]);
            case "review": return x.review(a[0], a[1]);
            case "rank": return x.rank(a[0]);
            case "undo": return x.undo();
            case "shelf": return x.shelf(a[0], a[1], a[2]);
            case "lay": return x.lay(a[0], a[1], a[2], a[3] == 1) ? 1 : 0;
            case "look": return x.look(a[0], a[1]);
            case "end": return x.end(a[0]) ? 1 : 0;
            case "feed": return x.feed(a[0], a[1], a[2], a[3], a[4]);
            case "week": return x.week();
            default: return x.fault(a[0]);
        }
    }

    private long askPlain(int kind, int[] a) {
        switch (NAMES[kind]) {
            case "has": return y.has(a[0]);
            case "letter": return y.letter(a[0], a[1], a[2]);
            case "one": return y.one(a[0], a[1]);
            case "formBits": return y.formBits(a[0]);
            case "game": return y.game(a[0], a[1]);
            case "seat": return y.seat(a[0], a[1], a[2]);
            case "way": return y.way(a[0], a[1]);
            case "toward": return y.toward(a[0], a[1]);
            case "hub": return y.hub();
            case "why": return y.why(a[0], a[1], a[2]);
            case "put": return y.put(a[0], a[1], a[2]);
            case "drop": return y.drop(a[0], a[1]);
            case "swap": return y.swap(a[0], a[1], a[2], a[3]);
            case "could": return y.could(a[0], a[1], a[2], a[3]);
            case "able": return y.able(a[0], a[1]);
            case "best": return y.best(a[0], a[1]);
            case "extra": return y.extra(a[0], a[1], a[2]);
            case "fee": return y.fee(a[0], a[1], a[2]);
            case "fees": return y.fees(a[0]);
            case "crew": return y.crew(a[0], a[1]);
            case "fill": return y.fill();
            case "steps": return y.steps(a[0], a[1], a[2]);
            case "unsound": return y.unsound(a[0]);
            case "exchange": return y.exchange(a[0]);
            case "round": return y.round(a[0], a[1]);
            case "trip": return y.trip(a[0], a[1], a[2]);
            case "spread": return y.spread(a[0]);
            case "day": return y.day();
            case "play": return y.play(a[0]);
            case "mark": return y.mark(a[0], a[1], a[2]);
            case "review": return y.review(a[0], a[1]);
            case "rank": return y.rank(a[0]);
            case "undo": return y.undo();
            case "shelf": return y.shelf(a[0], a[1], a[2]);
            case "lay": return y.lay(a[0], a[1], a[2], a[3] == 1) ? 1 : 0;
            case "look": return y.look(a[0], a[1]);
            case "end": return y.end(a[0]) ? 1 : 0;
            case "feed": return y.feed(a);
            case "week": return y.week();
            default: return y.fault(a[0]);
        }
    }
}
