import java.util.ArrayList;
import java.util.List;
import java.util.Random;

/** Random runs of at most 512 calls, each answer held against PlainRosters. */
public final class RandomRunsTest {
    private static final int[] WEIGHT = {2, 1, 3, 1, 2, 4, 1, 1, 1, 6, 40, 3, 12, 8, 3, 3, 3, 3, 1, 4, 1, 8, 3, 3, 2, 4,
        1, 2, 3, 10, 3, 2, 3, 1, 2, 2, 0, 0, 0, 1};

    public static void main(String[] args) {
        int runs = args.length > 0 ? Integer.parseInt(args[0]) : 1500;
        int first = args.length > 1 ? Integer.parseInt(args[1]) : 0;
        for (int seed = first; seed < first + runs; seed++) {
            if (!new RandomRunsTest(seed).run()) {
                System.exit(1);
            }
        }
        System.out.println("RandomRunsTest: " + runs + " runs agree");
    }

    private final Random random;
    private final Twins twins;
    private final WhistleRoster x;
    private int pace;

    private RandomRunsTest(int seed) {
        twins = new Twins("seed " + seed);
        x = twins.x;
        random = new Random(seed * 7919L + 13);
    }

    private boolean run() {
        int calls = 0;
        int until = 0;
        boolean busy = random.nextInt(3) > 0;
        pace = random.nextInt(4);
        while (calls < 450) {
            if (calls >= until) {
                String text = random.nextInt(4) == 0 ? WeekTexts.broken(random) : WeekTexts.fine(random);
                if (!twins.feedText(text) || !same(38, new int[4]) || !same(39, new int[] {0}) || !same(39, new int[] {1})) {
                    return false;
                }
                calls += 64;
                until = calls + random.nextInt(300);
                if (busy && random.nextBoolean() && !same(20, new int[4])) {
                    return false;
                }
            }
            if (calls + 120 < 450 && random.nextInt(150) == 0) {
                if (!season()) {
                    return false;
                }
                calls += 120;
            }
            if (calls + 200 < 450 && random.nextInt(200) == 0) {
                if (!crowd()) {
                    return false;
                }
                calls += 200;
            }
            int kind = pick();
            if (!same(kind, arguments(kind))) {
                return false;
            }
            calls++;
        }
        return true;
    }

    /** Seats are taken, some days go by, marks are given, most of them high or low, and grades change. */
    private boolean season() {
        int games = x.has(3);
        for (int i = 0; i < 50; i++) {
            if (!same(10, new int[] {random.nextInt(games + 1), random.nextInt(3), random.nextInt(10)})) {
                return false;
            }
        }
        for (int i = random.nextInt(4); i >= 0; i--) {
            if (!same(random.nextInt(4) == 0 ? 28 : 27, new int[] {random.nextInt()})) {
                return false;
            }
        }
        for (int i = 0; i < 40; i++) {
            int place = taken(true);
            int high = place % 3 == 0 || random.nextInt(5) == 0 ? 100 : 1;
            if (!same(29, new int[] {place / 3, place % 3, high - random.nextInt(2)})) {
                return false;
            }
        }
        return same(30, new int[] {random.nextInt(10), random.nextInt(10)}) && same(22, new int[] {-1})
            && same(22, new int[] {0}) && same(22, new int[] {1});
    }

    /** Every seat is taken that can be, so that who steps in must often leave a seat. */
    private boolean crowd() {
        for (int place = 0; place < 3 * x.has(3); place++) {
            int from = random.nextInt(10);
            int able = x.able(place / 3, place % 3);
            for (int o = from; able > 0 && o < from + 10; o++) {
                if ((able >> o % 10 & 1) != 0) {
                    if (!same(10, new int[] {place / 3, place % 3, o % 10})) {
                        return false;
                    }
                    break;
                }
            }
        }
        for (int place = 0; place < 3 * x.has(3); place++) {
            for (int what = 0; what < 5 && x.seat(place / 3, place % 3, 0) >= 0; what++) {
                if (!same(21, new int[] {place / 3, place % 3, what})) {
                    return false;
                }
            }
        }
        boolean fine = true;
        for (int what = 0; what < 5; what++) {
            fine &= same(23, new int[] {what});
        }
        return fine;
    }

    /** Days go by in some runs alone, and marks are given mostly there. */
    private int weight(int kind) {
        boolean ofDays = kind == 27 || kind == 28;
        boolean ofMarks = kind == 29 || kind == 30;
        return ofDays ? WEIGHT[kind] * pace / 2 : ofMarks && x.has(6) > 0 ? WEIGHT[kind] * 2 : WEIGHT[kind];
    }

    private int pick() {
        int sum = 0;
        for (int kind = 0; kind < WEIGHT.length; kind++) {
            sum += weight(kind);
        }
        int at = random.nextInt(sum);
        int kind = 0;
        while (at >= weight(kind)) {
            at -= weight(kind);
            kind++;
        }
        return kind;
    }

    /** A seat as 3 times game and seat: one that is taken (and played, and without a mark), if there is such. */
    private int taken(boolean unmarked) {
        List<Integer> places = new ArrayList<>();
        for (int place = 0; place < 48; place++) {
            if (x.seat(place / 3, place % 3, 0) >= 0) {
                boolean markable = x.game(place / 3, 8) == 2 && x.seat(place / 3, place % 3, 1) < 0;
                if (!unmarked || markable) {
                    places.add(place);
                }
            }
        }
        return places.isEmpty() ? 0 : places.get(random.nextInt(places.size()));
    }

    private int near(int count) {
        int wild = random.nextInt(60);
        if (wild == 0) {
            return random.nextInt();
        }
        if (wild <= 3 || count <= 0) {
            return random.nextInt(Math.max(count, 0) + 3) - 1;
        }
        return random.nextInt(count);
    }

    private int[] arguments(int kind) {
        int games = x.has(3);
        int ones = x.has(2);
        int fields = x.has(0);
        boolean aimed = random.nextInt(5) > 0;
        int place = aimed ? taken(Twins.NAMES[kind].equals("mark")) : 0;
        int other = aimed ? taken(false) : 0;
        switch (aimed ? Twins.NAMES[kind] : "") {
            case "swap": case "could": return new int[] {place / 3, place % 3, other / 3, other % 3};
            case "mark": return new int[] {place / 3, place % 3, random.nextInt(3) * 50};
            case "steps": return new int[] {place / 3, place % 3, near(5)};
            case "drop": case "extra": case "fee": return new int[] {place / 3, place % 3, near(ones)};
            case "review": return new int[] {random.nextInt(3), random.nextInt(3)};
            default: return anyArguments(kind, games, ones, fields);
        }
    }

    private int[] anyArguments(int kind, int games, int ones, int fields) {
        switch (Twins.NAMES[kind]) {
            case "has": return new int[] {near(11)};
            case "letter": return new int[] {near(3), near(8), near(6)};
            case "one": return new int[] {near(ones), near(7)};
            case "formBits": case "rank": return new int[] {near(ones)};
            case "fees": return new int[] {near(ones + 1) - 1};
            case "game": return new int[] {near(games), near(9)};
            case "seat": return new int[] {near(games), near(3), near(2)};
            case "way": case "toward": return new int[] {near(fields), near(fields)};
            case "swap": case "could": return new int[] {near(games), near(2), near(games), near(2)};
            case "crew": return new int[] {near(games), near(4)};
            case "steps": return new int[] {near(games), near(2), near(5)};
            case "unsound": return new int[] {near(10) - 1};
            case "exchange": return new int[] {near(5)};
            case "round": return new int[] {near(ones), near(7)};
            case "trip": return new int[] {near(ones), near(7), near(4)};
            case "spread": return new int[] {near(3)};
            case "mark": return new int[] {near(games), near(2), near(101)};
            case "review": return new int[] {near(10), near(10)};
            case "shelf": return new int[] {near(3), near(2), near(21)};
            case "lay": return new int[] {near(3), near(10), near(ones), near(2)};
            case "look": return new int[] {near(3), near(10)};
            case "play": return new int[] {random.nextInt()};
            case "fault": return new int[] {near(2)};
            default: return new int[] {near(games), near(2), near(ones), 0};
        }
    }

    private boolean same(int kind, int[] a) {
        return twins.same(kind, a);
    }
}
