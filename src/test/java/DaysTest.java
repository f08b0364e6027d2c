/** Promises 33 to 38, and 9: days, marks by lots and by hand, promotion, the order of officials, all taken back. */
public final class DaysTest {
    private static final Check check = new Check("DaysTest");
    private static final String GROUND = "field a;field b;road a b 30;club k;club l;";

    public static void main(String[] args) {
        days();
        played();
        drawsOfManySeeds();
        marked();
        formsAsFloats();
        reviewed();
        reviewedByOrder();
        reviewEdges();
        ranks();
        undone();
        undoOfEach();
        refusedIsNoAct();
        check.close();
    }

    private static void days() {
        WhistleRoster x = new WhistleRoster();
        for (int day = 0; day <= 7; day++) {
            check.due("day", x.day(), day);
            check.due("today", x.has(6), day);
        }
        check.due("day", x.day(), -1);
        check.due("play", x.play(1), -1);
        check.due("today", x.has(6), 7);
        check.due("acts", x.has(9), 8);
        check.due("undo", x.undo(), 7);
        check.due("today", x.has(6), 6);
        check.due("play", x.play(1), 0);
        check.due("today", x.has(6), 7);
        x = Check.of(GROUND + "one p 3 at a;game k l at a on 6 0 for 60 grade 1;");
        check.due("put", x.put(0, 0, 0), 0);
        for (int day = 0; day < 6; day++) {
            check.due("play", x.play(day), 0);
            check.due("ahead", x.game(0, 8), 0);
        }
        check.due("day", x.day(), 6);
        check.due("late", x.game(0, 8), 1);
        check.due("play", x.play(9), 1);
        check.due("played", x.game(0, 8), 2);
    }

    private static int next(int z) {
        return (int) ((1103515245L * z + 12345L) & 0xffffffffL);
    }

    private static int lot(int z) {
        return (int) ((z & 0xffffffffL) / 65536L % 101L);
    }

    private static WhistleRoster threeGames() {
        WhistleRoster x = Check.of(GROUND + "one p 3 at a;one q 3 at a;one r 3 at a;"
            + "game k l at a on 1 300 for 60 grade 1 by 3;game k l at a on 0 0 for 60 grade 1 by 2;game k l at a on 1 0 for 60 grade 1 by 2;");
        check.due("puts", x.put(0, 0, 2) + x.put(0, 2, 0) + x.put(1, 1, 0) + x.put(2, 0, 1) + x.put(2, 1, 0), 0);
        return x;
    }

    private static void played() {
        WhistleRoster x = threeGames();
        check.due("to day 0", x.play(5), 0);
        check.due("day 0 is over", x.play(5), 1);
        check.due("today", x.has(6), 1);
        int z = next(5);
        check.due("mark", x.seat(1, 1, 1), lot(z));
        check.due("free", x.seat(1, 0, 1), -1);
        check.due("not yet", x.seat(0, 0, 1), -1);
        check.due("form", x.formBits(0), Float.floatToIntBits(50f * 0.75f + lot(z) * 0.25f));
        check.due("day 1 is over", x.play(-77), 4);
        int z0 = next(-77);
        int z1 = next(z0);
        int z2 = next(z1);
        int z3 = next(z2);
        check.due("mark", x.seat(0, 0, 1), lot(z0));
        check.due("free", x.seat(0, 1, 1), -1);
        check.due("mark", x.seat(0, 2, 1), lot(z1));
        check.due("mark", x.seat(2, 0, 1), lot(z2));
        check.due("mark", x.seat(2, 1, 1), lot(z3));
        check.due("stays", x.seat(1, 1, 1), lot(z));
        float form = 50f;
        for (int each : new int[] {z, z1, z3}) {
            float old = form * 0.75f;
            float fresh = lot(each) * 0.25f;
            form = old + fresh;
        }
        check.due("form", x.formBits(0), Float.floatToIntBits(form));
        check.due("marks", x.one(0, 4), 3);
        check.due("marks", x.one(1, 4), 1);
        check.due("acts", x.has(9), 8);
        check.due("undo", x.undo(), 7);
        check.due("mark is gone", x.seat(2, 1, 1), -1);
        check.due("marks", x.one(0, 4), 1);
        check.due("today", x.has(6), 1);
        check.due("day without marks", x.day(), 2);
        check.due("no mark", x.seat(0, 0, 1), -1);
        check.due("they were played ahead of it", x.play(3), 0);
        check.due("no mark", x.seat(0, 0, 1), -1);
    }

    private static void drawsOfManySeeds() {
        WhistleRoster x = Check.of(GROUND + "one p 3 at a;game k l at a on 0 0 for 60 grade 1;");
        check.due("put and day", x.put(0, 0, 0) + x.day(), 0);
        int[] seeds = {0, 1, -1, 12345, 65535, 65536, -65536, Integer.MAX_VALUE, Integer.MIN_VALUE, 1103515245, -987654321};
        for (int i = 0; i < 60; i++) {
            int seed = i < seeds.length ? seeds[i] : i * 716_151_817;
            check.due("play(" + seed + ")", x.play(seed), 1);
            check.due("mark by " + seed, x.seat(0, 0, 1), lot(next(seed)));
            check.due("undo", x.undo(), 2);
        }
    }

    private static void marked() {
        WhistleRoster x = threeGames();
        check.due("ahead", x.mark(1, 1, 50), -1);
        check.due("day", x.day(), 0);
        check.due("late", x.mark(1, 1, 50), -1);
        check.due("day", x.day(), 1);
        int[][] none = {{1, 1, -1}, {1, 1, 101}, {1, 0, 50}, {1, 2, 50}, {3, 0, 50}, {-1, 0, 50}, {1, -1, 50}, {0, 0, 50},
            {1, 1, Integer.MAX_VALUE}, {1, 1, Integer.MIN_VALUE}, {Integer.MAX_VALUE, 0, 0}};
        for (int[] a : none) {
            check.due("mark(" + a[0] + ", " + a[1] + ", " + a[2] + ")", x.mark(a[0], a[1], a[2]), -1);
        }
        check.due("acts", x.has(9), 7);
        check.due("mark", x.mark(1, 1, 100), 62);
        check.due("mark again", x.mark(1, 1, 100), -1);
        check.due("marks", x.one(0, 4), 1);
        check.due("seat", x.seat(1, 1, 1), 100);
        check.due("form", x.formBits(0), Float.floatToIntBits(62.5f));
        check.due("form of others", x.formBits(1), Float.floatToIntBits(50f));
        check.due("undo", x.undo(), 7);
        check.due("mark", x.mark(1, 1, 0), 37);
        check.due("seat", x.seat(1, 1, 1), 0);
        check.due("mark again", x.mark(1, 1, 0), -1);
    }

    /** Ten officials in sixteen games: all that a float may be by marks, down to the least and up to the most. */
    private static void formsAsFloats() {
        StringBuilder text = new StringBuilder(GROUND).append("most 4;rest 0;one p 3 at a;one q 3 at a;one r 3 at a;");
        for (int g = 0; g < 16; g++) {
            text.append("game k l at a on ").append(g / 4).append(' ').append(g % 4 * 100).append(" for 10 grade 1 by 3;");
        }
        WhistleRoster x = Check.of(text.toString());
        check.due("fill", x.fill(), 48);
        for (int day = 0; day <= 4; day++) {
            check.due("day", x.day(), day);
        }
        float[] form = {50f, 50f, 50f};
        for (int g = 0; g < 16; g++) {
            for (int s = 0; s < 3; s++) {
                int o = x.seat(g, s, 0);
                int m = o == 0 ? 0 : o == 1 ? 100 : g * g % 7 + 1;
                float old = form[o] * 0.75f;
                float fresh = m * 0.25f;
                form[o] = old + fresh;
                check.due("mark", x.mark(g, s, m), (int) form[o]);
                check.due("formBits(" + o + ")", x.formBits(o), Float.floatToIntBits(form[o]));
                check.due("one(" + o + ", 5)", x.one(o, 5), (int) form[o]);
            }
        }
        check.due("below 1", form[0] < 1f, true);
    }

    /** Officials of such grades have the marks told, one text of marks for each: digits times ten, x for 100. */
    private static WhistleRoster judged(String grades, String... marks) {
        StringBuilder text = new StringBuilder(GROUND).append("most 4;rest 0;");
        int most = 0;
        for (int o = 0; o < marks.length; o++) {
            text.append("one o").append((char) ('a' + o)).append(' ').append(grades.charAt(o)).append(" at a;");
            most = Math.max(most, marks[o].length());
        }
        int[] game = new int[marks.length * most];
        int games = 0;
        int seats = 3;
        for (int i = 0; i < game.length; i++) {
            if (i / marks.length < marks[i % marks.length].length()) {
                boolean isNew = seats == 3 || i % marks.length == 0;
                if (isNew) {
                    text.append("game k l at a on ").append(games / 4).append(' ').append(games % 4 * 200).append(" for 10 grade 1 by 3;");
                    games++;
                    seats = 0;
                }
                game[i] = 3 * (games - 1) + seats;
                seats++;
            }
        }
        WhistleRoster x = Check.of(text.toString());
        int puts = 0;
        for (int i = 0; i < game.length; i++) {
            if (i / marks.length < marks[i % marks.length].length()) {
                puts += x.put(game[i] / 3, game[i] % 3, i % marks.length);
            }
        }
        check.due("puts", puts, 0);
        for (int day = 0; day < 5; day++) {
            x.day();
        }
        for (int i = 0; i < game.length; i++) {
            if (i / marks.length < marks[i % marks.length].length()) {
                char m = marks[i % marks.length].charAt(i / marks.length);
                check.due("mark", x.mark(game[i] / 3, game[i] % 3, m == 'x' ? 100 : 10 * (m - '0')) >= 0, true);
            }
        }
        return x;
    }

    private static void grades(WhistleRoster x, String due) {
        for (int o = 0; o < due.length(); o++) {
            check.due("grade of " + o, x.one(o, 0), due.charAt(o) - '0');
        }
    }

    private static void reviewed() {
        WhistleRoster x = judged("33333", "xx", "00", "55", "x", "0");
        int[] marks = {2, 2, 2, 1, 1};
        for (int o = 0; o < 5; o++) {
            check.due("marks", x.one(o, 4), marks[o]);
        }
        int[][] wrong = {{-1, 0}, {0, -1}, {10, 0}, {0, 10}, {Integer.MAX_VALUE, 1}, {1, Integer.MIN_VALUE}};
        int acts = x.has(9);
        for (int[] a : wrong) {
            check.due("review(" + a[0] + ", " + a[1] + ")", x.review(a[0], a[1]), -1);
        }
        check.due("marks stay", x.one(0, 4), 2);
        check.due("acts", x.has(9), acts);
        check.due("review", x.review(9, 9), 2);
        grades(x, "42333");
        for (int o = 0; o < 5; o++) {
            check.due("marks are 0", x.one(o, 4), 0);
        }
        check.due("forms stay", x.one(0, 5), 71);
        check.due("review", x.review(9, 9), 0);
        grades(x, "42333");
        check.due("undo", x.undo() > 0, true);
        check.due("undo", x.undo() > 0, true);
        grades(x, "33333");
        check.due("marks", x.one(0, 4), 2);
        check.due("review of none", x.review(0, 0), 0);
        grades(x, "33333");
        check.due("marks are 0", x.one(0, 4), 0);
    }

    private static void reviewedByOrder() {
        // forms: 71, 69, 71, 65 of grade 2, 71 of grade 1 and 5
        WhistleRoster x = judged("222215", "xx", "9x", "xx", "97", "xx", "xx");
        check.due("review", x.review(1, 0), 2);
        grades(x, "322225");
        x.undo();
        check.due("review", x.review(2, 0), 3);
        grades(x, "323225");
        x.undo();
        check.due("review", x.review(3, 9), 4);
        grades(x, "333225");
        x.undo();
        check.due("review", x.review(9, 9), 5);
        grades(x, "333325");
        // from above and from below into one grade: judged by what they were
        x = judged("4322", "00", "00", "xx", "00");
        check.due("review", x.review(1, 1), 4);
        grades(x, "3231");
        // below: 28, 30, 28, 28 with more marks: the last by order go down
        x = judged("3333", "00", "01", "00", "00");
        check.due("review", x.review(0, 1), 1);
        grades(x, "3332");
        x.undo();
        check.due("review", x.review(0, 2), 2);
        grades(x, "3322");
        x.undo();
        check.due("review", x.review(0, 3), 3);
        grades(x, "2322");
        // all of them are below 40
        x = judged("33", "00", "00");
        check.due("review", x.review(0, 9), 2);
        grades(x, "22");
        // of grade 1 nobody goes down, of grade 5 nobody up, from 5 down and from 1 up
        x = judged("1515", "00", "xx", "xx", "00");
        check.due("review", x.review(9, 9), 2);
        grades(x, "1524");
    }

    private static void reviewEdges() {
        // 50, 80: 37.5 + 20 = 57.5; 100, 50: 62.5 -> 59.375; 90, 60: 60 -> 60; 10, 40: 40 -> 40; 10, 30: 40 -> 37.5
        WhistleRoster x = judged("33333", "58", "x5", "96", "14", "13");
        check.due("form", x.one(2, 5), 60);
        check.due("form", x.one(3, 5), 40);
        check.due("review", x.review(9, 9), 2);
        grades(x, "33432");
    }

    private static void ranks() {
        WhistleRoster x = judged("12345", "5", "55", "x", "", "0");
        int[] due = {2, 1, 0, 3, 4};
        for (int i = 0; i < 5; i++) {
            check.due("rank(" + i + ")", x.rank(i), due[i]);
        }
        check.due("rank", x.rank(5), -1);
        check.due("rank", x.rank(-1), -1);
        check.due("rank", x.rank(Integer.MAX_VALUE), -1);
        check.due("rank", x.rank(Integer.MIN_VALUE), -1);
        check.due("review", x.review(1, 1), 0);
        int[] then = {2, 0, 1, 3, 4};
        for (int i = 0; i < 5; i++) {
            check.due("rank(" + i + ") without marks", x.rank(i), then[i]);
        }
        check.due("none", new WhistleRoster().rank(0), -1);
    }

    private static void undone() {
        WhistleRoster x = Check.of(GROUND + "one p 3 at a;game k l at a on 0 0 for 60 grade 1;");
        check.due("undo", x.undo(), -1);
        for (int i = 0; i < 5; i++) {
            check.due("put", x.put(0, 0, 0), 0);
            check.due("drop", x.drop(0, 0), 0);
        }
        check.due("acts", x.has(9), 8);
        for (int i = 7; i >= 0; i--) {
            check.due("undo", x.undo(), i);
            check.due("seat", x.seat(0, 0, 0), i % 2 == 0 ? -1 : 0);
        }
        check.due("undo", x.undo(), -1);
        check.due("acts", x.has(9), 0);
        check.due("put", x.put(0, 0, 0), 0);
        check.due("a fault", feed(x, "field"), -1);
        check.due("acts stay", x.has(9), 1);
        check.due("a week", feed(x, "field a;"), 0);
        check.due("acts are forgotten", x.has(9), 0);
        check.due("undo", x.undo(), -1);
    }

    private static int feed(WhistleRoster x, String text) {
        Check.feed(x, text);
        return x.week();
    }

    private static void undoOfEach() {
        WhistleRoster x = Check.of(GROUND + "one p 3 at a;one q 3 at b;one r 3 at b;game k l at a on 0 0 for 60 grade 1 by 2;"
            + "game k l at b on 0 0 for 60 grade 1;game k l at b on 2 0 for 60 grade 1 by 2;");
        check.due("put", x.put(0, 0, 1), 0);
        check.due("put", x.put(1, 0, 0), 0);
        check.due("swap", x.swap(0, 0, 1, 0), 0);
        check.due("undo", x.undo(), 2);
        check.due("seats", x.seat(0, 0, 0) * 10 + x.seat(1, 0, 0), 10);
        check.due("swap", x.swap(0, 0, 1, 0), 0);
        check.due("drop", x.drop(1, 0), 1);
        check.due("undo", x.undo(), 3);
        check.due("seat", x.seat(1, 0, 0), 1);
        check.due("fill", x.fill(), 3);
        check.due("undo", x.undo(), 3);
        check.due("taken", x.has(8), 2);
        check.due("seats of r", x.one(2, 6), 0);
        check.due("fill", x.fill(), 3);
        check.due("days", x.day() * 10 + x.play(8), 3);
        check.due("acts", x.has(9), 6);
        check.due("undo", x.undo(), 5);
        check.due("today", x.has(6), 0);
        check.due("no marks", x.seat(0, 0, 1), -1);
        check.due("form", x.formBits(0), Float.floatToIntBits(50f));
        check.due("day", x.day(), 1);
        check.due("mark", x.mark(0, 0, 90), 60);
        check.due("undo", x.undo(), 6);
        check.due("mark is gone", x.seat(0, 0, 1), -1);
        check.due("form", x.one(0, 5), 50);
        check.due("marks", x.one(0, 4), 0);
        check.due("mark", x.mark(0, 0, 90), 60);
        check.due("review", x.review(1, 1), 0);
        check.due("marks", x.one(0, 4), 0);
        check.due("undo", x.undo(), 7);
        check.due("marks", x.one(0, 4), 1);
        check.due("undo", x.undo(), 6);
        check.due("undo", x.undo(), 5);
        check.due("today", x.has(6), 0);
        check.due("undo", x.undo(), 4);
        check.due("today", x.has(6), -1);
        check.due("undo", x.undo(), 3);
        check.due("taken", x.has(8), 2);
    }

    private static void refusedIsNoAct() {
        WhistleRoster x = Check.of(GROUND + "one p 1 at a;one q 1 at a;game k l at a on 0 0 for 60 grade 2;game k l at a on 1 0 for 60 grade 1;");
        check.due("put", x.put(0, 0, 0), -5);
        check.due("drop", x.drop(0, 0), -2);
        check.due("swap", x.swap(0, 0, 1, 0), -3);
        check.due("fill", x.fill(), -1);
        check.due("mark", x.mark(0, 0, 5), -1);
        check.due("review", x.review(10, 0), -1);
        check.due("undo", x.undo(), -1);
        check.due("acts", x.has(9), 0);
        check.due("review of nothing is one", x.review(0, 0), 0);
        check.due("acts", x.has(9), 1);
        check.due("play of nothing is one", x.play(0), 0);
        check.due("acts", x.has(9), 2);
    }
}
