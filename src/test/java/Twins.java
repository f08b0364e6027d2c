import java.util.ArrayList;
import java.util.List;
import java.util.NoSuchElementException;

/** One object of the class and one of PlainRosters, which are asked the same and must answer the same. */
final class Twins {
    static final String[] NAMES = {"has", "letter", "one", "formBits", "game", "seat", "way", "toward", "hub",
        "why", "put", "drop", "swap", "could", "able", "best", "extra", "fee", "fees", "crew", "fill", "steps",
        "unsound", "exchange", "round", "trip", "spread", "day", "play", "mark", "review", "rank", "undo", "shelf", "lay",
        "look", "end", "feed", "week", "fault"};
    private static final long THREW_NONE_SUCH = Long.MAX_VALUE;
    private static final long THREW_ILLEGAL = Long.MAX_VALUE - 1;

    final WhistleRoster x = new WhistleRoster();
    private final PlainRosters y = new PlainRosters();
    private final String run;
    private final List<String> told = new ArrayList<>();

    Twins(String run) {
        this.run = run;
    }

    static int kindOf(String name) {
        int kind = 0;
        while (!NAMES[kind].equals(name)) {
            kind++;
        }
        return kind;
    }

    int calls() {
        return told.size();
    }

    boolean same(String name, int... a) {
        return same(kindOf(name), a);
    }

    boolean feedText(String text) {
        told.add(text);
        int[] n = new int[5];
        for (int at = 0; at < text.length(); at += 20) {
            for (int k = 0; k < 20; k++) {
                char c = at + k < text.length() ? text.charAt(at + k) : 0;
                n[k / 4] = n[k / 4] << 8 | c;
            }
            if (!same("feed", n)) {
                return false;
            }
        }
        return same("end", text.length() + 1300) && same("end", -1) && same("end", text.length());
    }

    boolean same(int kind, int... a) {
        long due;
        try {
            due = askPlain(kind, a);
        } catch (NoSuchElementException e) {
            due = THREW_NONE_SUCH;
        } catch (IllegalArgumentException e) {
            due = THREW_ILLEGAL;
        }
        long got;
        try {
            got = ask(kind, a);
        } catch (NoSuchElementException e) {
            got = THREW_NONE_SUCH;
        } catch (IllegalArgumentException e) {
            got = THREW_ILLEGAL;
        }
        StringBuilder call = new StringBuilder(NAMES[kind]).append('(');
        for (int n : a) {
            call.append(n).append(' ');
        }
        told.add(call.append(") ").append(due).toString());
        if (got != due) {
            told.forEach(System.out::println);
            System.out.println(run + ": the last call answered " + got);
        }
        return got == due;
    }

    private long ask(int kind, int[] a) {
        switch (NAMES[kind]) {
            case "has": return x.has(a[0]);
            case "letter": return x.letter(a[0], a[1], a[2]);
            case "one": return x.one(a[0], a[1]);
            case "formBits": return x.formBits(a[0]);
            case "game": return x.game(a[0], a[1]);
            case "seat": return x.seat(a[0], a[1], a[2]);
            case "way": return x.way(a[0], a[1]);
            case "toward": return x.toward(a[0], a[1]);
            case "hub": return x.hub();
            case "why": return x.why(a[0], a[1], a[2]);
            case "put": return x.put(a[0], a[1], a[2]);
            case "drop": return x.drop(a[0], a[1]);
            case "swap": return x.swap(a[0], a[1], a[2], a[3]);
            case "could": return x.could(a[0], a[1], a[2], a[3]);
            case "able": return x.able(a[0], a[1]);
            case "best": return x.best(a[0], a[1]);
            case "extra": return x.extra(a[0], a[1], a[2]);
            case "fee": return x.fee(a[0], a[1], a[2]);
            case "fees": return x.fees(a[0]);
            case "crew": return x.crew(a[0], a[1]);
            case "fill": return x.fill();
            case "steps": return x.steps(a[0], a[1], a[2]);
            case "unsound": return x.unsound(a[0]);
            case "exchange": return x.exchange(a[0]);
            case "round": return x.round(a[0], a[1]);
            case "trip": return x.trip(a[0], a[1], a[2]);
            case "spread": return x.spread(a[0]);
            case "day": return x.day();
            case "play": return x.play(a[0]);
            case "mark": return x.mark(a[0], a[1], a[2]);
            case "review": return x.review(a[0], a[1]);
            case "rank": return x.rank(a[0]);
            case "undo": return x.undo();
            case "shelf": return x.shelf(a[0], a[1], a[2]);
            case "lay": return x.lay(a[0], a[1], a[2], a[3] == 1) ? 1 : 0;
            case "look": return x.look(a[0], a[1]);
            case "end": return x.end(a[0]) ? 1 : 0;
            case "feed": return x.feed(a[0], a[1], a[2], a[3], a[4]);
            case "week": return x.week();
            default: return x.fault(a[0]);
        }
    }

    private long askPlain(int kind, int[] a) {
        switch (NAMES[kind]) {
            case "has": return y.has(a[0]);
            case "letter": return y.letter(a[0], a[1], a[2]);
            case "one": return y.one(a[0], a[1]);
            case "formBits": return y.formBits(a[0]);
            case "game": return y.game(a[0], a[1]);
            case "seat": return y.seat(a[0], a[1], a[2]);
            case "way": return y.way(a[0], a[1]);
            case "toward": return y.toward(a[0], a[1]);
            case "hub": return y.hub();
            case "why": return y.why(a[0], a[1], a[2]);
            case "put": return y.put(a[0], a[1], a[2]);
            case "drop": return y.drop(a[0], a[1]);
            case "swap": return y.swap(a[0], a[1], a[2], a[3]);
            case "could": return y.could(a[0], a[1], a[2], a[3]);
            case "able": return y.able(a[0], a[1]);
            case "best": return y.best(a[0], a[1]);
            case "extra": return y.extra(a[0], a[1], a[2]);
            case "fee": return y.fee(a[0], a[1], a[2]);
            case "fees": return y.fees(a[0]);
            case "crew": return y.crew(a[0], a[1]);
            case "fill": return y.fill();
            case "steps": return y.steps(a[0], a[1], a[2]);
            case "unsound": return y.unsound(a[0]);
            case "exchange": return y.exchange(a[0]);
            case "round": return y.round(a[0], a[1]);
            case "trip": return y.trip(a[0], a[1], a[2]);
            case "spread": return y.spread(a[0]);
            case "day": return y.day();
            case "play": return y.play(a[0]);
            case "mark": return y.mark(a[0], a[1], a[2]);
            case "review": return y.review(a[0], a[1]);
            case "rank": return y.rank(a[0]);
            case "undo": return y.undo();
            case "shelf": return y.shelf(a[0], a[1], a[2]);
            case "lay": return y.lay(a[0], a[1], a[2], a[3] == 1) ? 1 : 0;
            case "look": return y.look(a[0], a[1]);
            case "end": return y.end(a[0]) ? 1 : 0;
            case "feed": return y.feed(a);
            case "week": return y.week();
            default: return y.fault(a[0]);
        }
    }
}
