import java.util.NoSuchElementException;

/** Promises 25 to 41, a sentence at a time: what each call answers at its edges, and when it refuses. */
public final class SeasonEdgesTest {
    private static final Check check = new Check("SeasonEdgesTest");
    private static final String GROUND = "field a;field b;field c;field z;road a b 30;road b c 20;club k;club l;club m;club n;";
    private static final Class<NoSuchElementException> NO_SUCH = NoSuchElementException.class;
    private static final Class<IllegalArgumentException> ILLEGAL = IllegalArgumentException.class;
    private static final int LOW = Integer.MIN_VALUE;
    private static final int HIGH = Integer.MAX_VALUE;

    public static void main(String[] args) {
        crewWithLeastExtra();
        crewFirstByNumbers();
        crewNone();
        fillNothing();
        fillFirstWay();
        fillInNoWay();
        fillLateAndPlayed();
        fillTwentyThousandTimes();
        stepsDirectly();
        stepsFromAnotherGame();
        stepsInTheirOrder();
        stepsNone();
        unsoundOnes();
        exchangeByNone();
        exchangeFirstOnes();
        exchangeOnTwoDays();
        roundsOfNobody();
        tripsAtTheirEdges();
        spreads();
        daysUpToSeven();
        playOfTheDay();
        markRefused();
        reviewOfEachGrade();
        reviewAtTheEdges();
        reviewUpAndDown();
        ranks();
        undoNone();
        shelfRefused();
        laysRefused();
        looks();
        weeksInARow();
        check.close();
    }

    private static void puts(WhistleRoster x, int... each) {
        for (int i = 0; i < each.length; i += 3) {
            check.due("put(" + each[i] + ", " + each[i + 1] + ", " + each[i + 2] + ")", x.put(each[i], each[i + 1], each[i + 2]), 0);
        }
    }

    private static void days(WhistleRoster x, int until) {
        for (int d = x.has(6) + 1; d <= until; d++) {
            check.due("day", x.day(), d);
        }
    }

    private static void crew(WhistleRoster x, int game, int... due) {
        for (int what = 0; what < due.length; what++) {
            check.due("crew(" + game + ", " + what + ")", x.crew(game, what), due[what]);
        }
        check.due("crew, what " + due.length, x.crew(game, due.length), -1);
    }

    // 25: "with the least EXTRA together (each as it is put in)"
    private static void crewWithLeastExtra() {
        // p alone may sit first, though o is nearer to each SEAT
        WhistleRoster x = Check.of(GROUND + "one o 1 at b;one p 2 at a;one q 1 at c;game k l at b on 0 0 for 10 grade 2 by 2;game k l at b on 0 100 for 10 grade 2 by 2;");
        crew(x, 0, 60, 1, 0);
        // who is on its way to b anyway comes for nothing
        puts(x, 1, 1, 2);
        crew(x, 0, 60 + 0, 1, 0);
        // o is put in where it must be: both SEATS by 40 and 60
        x = Check.of(GROUND + "one o 1 at a;one p 1 at c;one q 1 at b no k;game k l at b on 0 0 for 10 grade 1 by 2;");
        crew(x, 0, 100, 0, 1);
        // one SEAT, three of them
        x = Check.of(GROUND + "one o 1 at a;one p 1 at c;one q 1 at b;game k l at b on 0 0 for 10 grade 1;game k l at b on 1 0 for 10 grade 1 by 3;");
        crew(x, 0, 0, 2);
        crew(x, 1, 100, 0, 1, 2);
    }

    // 25: "of several the first by numbers"
    private static void crewFirstByNumbers() {
        WhistleRoster x = Check.of(GROUND + "one o 2 at a;one p 2 at a;one q 2 at a;one r 2 at b;game k l at b on 0 0 for 10 grade 2 by 3;");
        crew(x, 0, 120, 0, 1, 3);
        puts(x, 0, 2, 1);
        crew(x, 0, 60, 0, 3, 1);
        puts(x, 0, 0, 2);
        crew(x, 0, 0, 2, 3, 1);
        puts(x, 0, 1, 0);
        check.due("all are taken: 0", x.crew(0, 0), 0);
        crew(x, 0, 0, 2, 0, 1);
    }

    // 25: "NONE: it can't be, PLAYED, there is none such, another what."
    private static void crewNone() {
        WhistleRoster x = Check.of(GROUND + "one o 2 at a;one p 1 at a;game k l at a on 1 0 for 10 grade 2 by 2;game k l at a on 2 0 for 10 grade 2 by 3;game k l at a on 3 0 for 10 grade 2;");
        crew(x, 0, 0, 0, 1);
        crew(x, 1, -1, -1, -1, -1);
        crew(x, 2, 0, 0);
        int[][] none = {{3, 0}, {-1, 0}, {16, 0}, {LOW, 0}, {HIGH, 0}, {0, -1}, {0, 3}, {0, 4}, {2, 2}, {0, LOW}, {0, HIGH}};
        for (int[] a : none) {
            check.due("crew(" + a[0] + ", " + a[1] + ")", x.crew(a[0], a[1]), -1);
        }
        puts(x, 0, 1, 0);
        crew(x, 0, -1, -1, -1);
        check.due("drop", x.drop(0, 1), 0);
        puts(x, 0, 0, 0);
        crew(x, 0, 0, 0, 1);
        days(x, 1);
        crew(x, 0, 0, 0, 1);
        days(x, 2);
        crew(x, 0, -1, -1, -1);
        check.due("nobody was put in", x.seat(0, 1, 0), -1);
    }

    // 26: "how many (0: none was free; that is no ACT)"
    private static void fillNothing() {
        WhistleRoster x = Check.of(GROUND + "one o 1 at a;game k l at a on 0 0 for 10 grade 1;");
        check.due("one", x.fill(), 1);
        check.due("an ACT", x.has(9), 1);
        check.due("none was free", x.fill(), 0);
        check.due("no ACT", x.has(9), 1);
        check.due("without GAMES", Check.of(GROUND + "one o 1 at a;").fill(), 0);
        check.due("without OFFICIALS", Check.of(GROUND + "game k l at a on 0 0 for 10 grade 1;").fill(), -1);
    }

    // 26: "GAME by GAME, SEAT by SEAT, OFFICIALS by numbers, the first way by which all may"
    private static void fillFirstWay() {
        WhistleRoster x = Check.of(GROUND + "one o 3 at a;one p 3 at a;one q 2 at a;one r 1 at a;most 1;"
            + "game k l at a on 0 0 for 10 grade 2 by 2;game k l at a on 0 200 for 10 grade 3 by 2;");
        // o, p first: then nobody of GRADE 3 is left; o, q: p and then nobody but r, who may not; o, r: p, q
        check.due("fill", x.fill(), 4);
        int[] due = {0, 3, 1, 2};
        for (int i = 0; i < 4; i++) {
            check.due("SEAT " + i, x.seat(i / 2, i % 2, 0), due[i]);
        }
        check.due("one ACT", x.has(9), 1);
        check.due("undo", x.undo(), 0);
        puts(x, 0, 1, 1);
        check.due("around who has a SEAT", x.fill(), -1);
        check.due("drop", x.drop(0, 1), 1);
        puts(x, 1, 0, 0);
        check.due("around who has a SEAT", x.fill(), 3);
        check.due("who had it", x.seat(1, 0, 0), 0);
        check.due("the first way", x.seat(0, 0, 0) * 100 + x.seat(0, 1, 0) * 10 + x.seat(1, 1, 0), 132);
    }

    // 26: "NONE: it can't be", and nothing happens
    private static void fillInNoWay() {
        WhistleRoster x = Check.of(GROUND + "one o 2 at a;one p 2 at a;game k l at a on 0 0 for 10 grade 2 by 2;game k l at a on 1 0 for 10 grade 2 by 3;");
        puts(x, 0, 1, 0);
        check.due("fill", x.fill(), -1);
        check.due("SEAT", x.seat(0, 0, 0), -1);
        check.due("SEAT", x.seat(0, 1, 0), 0);
        check.due("SEAT", x.seat(1, 0, 0), -1);
        check.due("SEATS it has", x.one(0, 6), 1);
        check.due("SEATS it has", x.one(1, 6), 0);
        check.due("ACTS", x.has(9), 1);
        check.due("undo", x.undo(), 0);
        check.due("SEAT", x.seat(0, 1, 0), -1);
    }

    // 26: "All free SEATS of GAMES that are neither PLAYED nor LATE are filled"
    private static void fillLateAndPlayed() {
        WhistleRoster x = Check.of(GROUND + "one o 1 at a;game k l at a on 1 0 for 10 grade 1;game k l at a on 2 0 for 10 grade 1;game k l at a on 3 0 for 10 grade 1;");
        days(x, 2);
        check.due("one of three", x.fill(), 1);
        check.due("PLAYED", x.seat(0, 0, 0), -1);
        check.due("LATE", x.seat(1, 0, 0), -1);
        check.due("ahead", x.seat(2, 0, 0), 0);
        check.due("undo", x.undo() >= 0, true);
        days(x, 3);
        check.due("none is free ahead", x.fill(), 0);
        days(x, 7);
        check.due("none is free ahead", x.fill(), 0);
        // one that can't be filled is no matter, if LATE
        x = Check.of(GROUND + "one o 1 at a;game k l at a on 1 0 for 10 grade 5;game k l at a on 2 0 for 10 grade 1;");
        check.due("it can't be", x.fill(), -1);
        days(x, 1);
        check.due("LATE", x.fill(), 1);
    }

    /**
     * The first takes the first GAME, where the last one needs it: all ways of the GAMES between are gone through, then
     * the second official takes the first GAME and each of the others takes one put more.
     */
    private static WhistleRoster longSearch(String more, int... grades) {
        StringBuilder text = new StringBuilder(GROUND).append("one xa 5 at a;");
        for (char c = 'b'; c < 'k'; c++) {
            text.append("one x").append(c).append(' ').append(c < 'f' ? 3 : c < 'h' ? 2 : 1).append(" at a;");
        }
        text.append("game k l at a on 0 0 for 10 grade 3;");
        for (int g = 0; g < grades.length; g++) {
            text.append("game k l at a on ").append(g + 1).append(" 0 for 10 grade ").append(grades[g]).append(';');
        }
        return Check.of(text.append("game k l at a on 0 0 for 10 grade 5;").append(more).toString());
    }

    // 26: "-2: it took more than 20,000 times that an OFFICIAL was put in (nothing happens then)"
    private static void fillTwentyThousandTimes() {
        // 10 are of GRADE 1, 7 of 2, 5 of 3, 1 of 5: 1 + 7 * (1 + 5 * (1 + 10 * (1 + 7 * (1 + 7)))) + 1 + 5 + 1 = 20000
        WhistleRoster x = longSearch("", 2, 3, 1, 2, 2);
        check.due("20,000 times", x.fill(), 7);
        check.due("the second", x.seat(0, 0, 0), 1);
        check.due("the first", x.seat(6, 0, 0), 0);
        check.due("one ACT", x.has(9), 1);
        // 1 + 7 * (1 + 5 * (1 + 10 * (1 + 1 * (1 + 5 * (1 + 10))))) + 1 + 6 + 1 = 20001
        x = longSearch("", 2, 3, 1, 5, 3, 1);
        puts(x, 4, 0, 0);
        check.due("drop", x.drop(4, 0), 0);
        check.due("20,001 times", x.fill(), -2);
        check.due("nothing happens", x.has(8), 0);
        for (int g = 0; g < 8; g++) {
            check.due("SEAT of GAME " + g, x.seat(g, 0, 0), -1);
        }
        for (int o = 0; o < 10; o++) {
            check.due("SEATS it has", x.one(o, 6), 0);
        }
        check.due("no ACT", x.has(9), 2);
        check.due("again", x.fill(), -2);
        puts(x, 0, 0, 1);
        check.due("less times", x.fill(), 7);
        check.due("all", x.has(8), 8);
        // a SEAT that was free in an earlier fill and is taken now stays taken
        x = longSearch("game k l at a on 6 500 for 10 grade 1;", 2, 3, 1, 5, 3, 1);
        check.due("more than 20,000 times", x.fill(), -2);
        puts(x, 8, 0, 9);
        check.due("20,001 times", x.fill(), -2);
        check.due("who had a SEAT has it", x.seat(8, 0, 0), 9);
        check.due("nobody else", x.has(8), 1);
    }

    private static void steps(WhistleRoster x, int game, int seat, int... due) {
        for (int what = 0; what < 5; what++) {
            check.due("steps(" + game + ", " + seat + ", " + what + ")", x.steps(game, seat, what), due[what]);
        }
    }

    // 27: "1 if somebody else may directly" (by numbers; "NONE each in the first case")
    private static void stepsDirectly() {
        WhistleRoster x = Check.of(GROUND + "one o 1 at a;one p 1 at a;one q 1 at a;game k l at a on 0 0 for 10 grade 1 by 2;game k l at a on 0 5 for 10 grade 1;");
        puts(x, 0, 0, 1);
        steps(x, 0, 0, 1, 0, -1, -1, -1);
        puts(x, 0, 1, 0);
        steps(x, 0, 0, 1, 2, -1, -1, -1);
        steps(x, 0, 1, 1, 2, -1, -1, -1);
        puts(x, 1, 0, 2);
        // nobody is left who could follow to the other GAME
        steps(x, 0, 0, -1, -1, -1, -1, -1);
        check.due("drop", x.drop(0, 1), 0);
        steps(x, 0, 0, 1, 0, -1, -1, -1);
        steps(x, 1, 0, 1, 0, -1, -1, -1);
        check.due("nothing happens", x.seat(0, 0, 0) * 10 + x.seat(1, 0, 0), 12);
        check.due("no ACT", x.has(9), 4);
        days(x, 0);
        check.due("LATE is no matter", x.steps(0, 0, 0), 1);
    }

    // 27: "2 if somebody who has a SEAT in another GAME (not PLAYED) may, that SEAT being free"
    private static void stepsFromAnotherGame() {
        // number 0 comes from GAME 0, SEAT 0, who follows is the last number
        WhistleRoster x = Check.of(GROUND + "one o 3 at a;one p 3 at a;one q 1 at a;most 1;game k l at a on 2 0 for 10 grade 1;game k l at a on 2 300 for 10 grade 3;");
        puts(x, 0, 0, 0, 1, 0, 1);
        steps(x, 1, 0, 2, 0, 0, 0, 2);
        steps(x, 0, 0, 1, 2, -1, -1, -1);
        days(x, 2);
        steps(x, 1, 0, 2, 0, 0, 0, 2);
        check.due("who has them", x.seat(0, 0, 0) * 10 + x.seat(1, 0, 0), 1);
        // "(not PLAYED)": on another DAY a SEAT does not lie in the way but by MOST, REST or FIELDS of that DAY
        x = Check.of(GROUND + "one o 3 at a;one p 3 at a no k;one q 1 at a;game m n at a on 0 0 for 10 grade 1;game k l at a on 2 300 for 10 grade 3;");
        puts(x, 0, 0, 1, 1, 0, 0);
        steps(x, 1, 0, -1, -1, -1, -1, -1);
        // the one who has the SEAT may not follow: nobody else may
        x = Check.of(GROUND + "one o 3 at a;one p 3 at a;most 1;game k l at a on 2 0 for 10 grade 1;game k l at a on 2 300 for 10 grade 3;");
        puts(x, 0, 0, 0, 1, 0, 1);
        steps(x, 1, 0, -1, -1, -1, -1, -1);
        // who has another SEAT of that GAME may not follow
        x = Check.of(GROUND + "one o 3 at a;one p 3 at a;one q 1 at a;most 1;game k l at a on 2 0 for 10 grade 1 by 2;game k l at a on 2 300 for 10 grade 3;");
        puts(x, 0, 0, 0, 1, 0, 1, 0, 1, 2);
        steps(x, 1, 0, -1, -1, -1, -1, -1);
    }

    // 27: "in the second by who comes, GAME, SEAT, who follows"
    private static void stepsInTheirOrder() {
        WhistleRoster x = Check.of(GROUND + "one o 3 at a;one p 3 at a;one q 3 at a;one r 1 at a;one s 1 at a;most 1;"
            + "game k l at a on 2 0 for 10 grade 1 by 3;game k l at a on 2 300 for 10 grade 3;game k l at a on 2 600 for 10 grade 1 by 3;");
        puts(x, 2, 2, 1, 0, 1, 2, 1, 0, 0);
        steps(x, 1, 0, 2, 1, 2, 2, 3);
        check.due("drop", x.drop(2, 2), 1);
        puts(x, 2, 0, 4);
        steps(x, 1, 0, 1, 1, -1, -1, -1);
        puts(x, 0, 2, 1);
        steps(x, 1, 0, 2, 1, 0, 2, 3);
        puts(x, 0, 0, 3);
        steps(x, 1, 0, -1, -1, -1, -1, -1);
        // of two GAMES that it may leave the first
        x = Check.of(GROUND + "one o 3 at a;one p 3 at a;one q 1 at a;most 2;game k l at a on 2 0 for 10 grade 1;game k l at a on 2 300 for 10 grade 3;game k l at a on 2 600 for 10 grade 1;");
        puts(x, 0, 0, 0, 2, 0, 0, 1, 0, 1);
        steps(x, 1, 0, 2, 0, 0, 0, 2);
    }

    // 27: "NONE: nobody, there is none such, it is free, PLAYED, another what."
    private static void stepsNone() {
        WhistleRoster x = Check.of(GROUND + "one o 1 at a;one p 1 at a;one q 1 at a;game k l at a on 1 0 for 10 grade 1 by 2;game k l at a on 2 0 for 10 grade 1;");
        puts(x, 0, 0, 0);
        int[][] none = {{2, 0, 0}, {-1, 0, 0}, {16, 0, 0}, {LOW, 0, 0}, {HIGH, 0, 0}, {0, 2, 0}, {0, -1, 0}, {1, 1, 0}, {0, LOW, 0}, {0, HIGH, 0},
            {0, 0, 5}, {0, 0, -1}, {0, 0, LOW}, {0, 0, HIGH}, {0, 1, 0}, {1, 0, 0}, {1, 0, 1}};
        for (int[] a : none) {
            check.due("steps(" + a[0] + ", " + a[1] + ", " + a[2] + ")", x.steps(a[0], a[1], a[2]), -1);
        }
        steps(x, 0, 0, 1, 1, -1, -1, -1);
        days(x, 2);
        steps(x, 0, 0, -1, -1, -1, -1, -1);
        // nobody of ten, from none of sixteen GAMES
        StringBuilder text = new StringBuilder(GROUND);
        for (char c = 'a'; c < 'k'; c++) {
            text.append("one x").append(c).append(c == 'j' ? " 5 at a;" : " 3 at a;");
        }
        x = Check.of(text + "game k l at a on 0 0 for 10 grade 1;".repeat(15) + "game k l at a on 0 0 for 10 grade 5;");
        puts(x, 15, 0, 9);
        for (int g = 0; g < 9; g++) {
            puts(x, g, 0, g);
        }
        steps(x, 15, 0, -1, -1, -1, -1, -1);
        steps(x, 0, 0, -1, -1, -1, -1, -1);
    }

    // 28: "how many (i NONE); the i-th, by GAMES, SEATS, as 3 times GAME and SEAT. NONE: there is none such."
    private static void unsoundOnes() {
        WhistleRoster x = Check.of(GROUND + "one o 2 at a;one p 2 at a;rest 0;game k l at a on 0 0 for 10 grade 2 by 3;game k l at a on 0 100 for 10 grade 2 by 3;"
            + "game k l at a on 3 0 for 10 grade 2 by 3;game k l at a on 4 0 for 10 grade 3 by 3;");
        puts(x, 0, 0, 0, 0, 2, 1, 1, 0, 1, 1, 1, 0, 2, 0, 1, 3, 2, 0);
        check.due("none", x.unsound(-1), 0);
        check.due("no 0th", x.unsound(0), -1);
        days(x, 1);
        check.due("marks", x.mark(0, 0, 0) + x.mark(0, 2, 0) + x.mark(1, 0, 0) + x.mark(1, 1, 0), 37 + 37 + 28 + 28);
        check.due("review", x.review(0, 2), 2);
        // SEATS 0 of NEED 2, and those of NEED 2 in the GAME of GRADE 3
        int[] due = {0, 3, 6, 11};
        check.due("how many", x.unsound(-1), due.length);
        for (int i = 0; i < due.length; i++) {
            check.due("unsound(" + i + ")", x.unsound(i), due[i]);
        }
        for (int i : new int[] {4, 48, -2, LOW, HIGH}) {
            check.due("unsound(" + i + ")", x.unsound(i), -1);
        }
    }

    private static void exchange(WhistleRoster x, int... due) {
        for (int what = 0; what < 5; what++) {
            check.due("exchange(" + what + ")", x.exchange(what), due[what]);
        }
    }

    // 29: "(0: by none)"; "NONE each, if by none"; "-2 for another what"
    private static void exchangeByNone() {
        WhistleRoster x = Check.of(GROUND + "one o 3 at a;one p 3 at b;one q 4 at b;rest 0;game k l at b on 1 0 for 10 grade 1;game k l at a on 2 0 for 10 grade 1;game k l at a on 3 0 for 10 grade 1;");
        exchange(x, 0, -1, -1, -1, -1);
        for (int what : new int[] {5, -1, -2, LOW, HIGH}) {
            check.due("exchange(" + what + ")", x.exchange(what), -2);
        }
        puts(x, 0, 0, 0);
        exchange(x, 0, -1, -1, -1, -1);
        puts(x, 1, 0, 2);
        exchange(x, 0, -1, -1, -1, -1);
        puts(x, 2, 0, 0);
        // of no other length: p for o in GAME 2 would be longer, q is of another GRADE
        exchange(x, 0, -1, -1, -1, -1);
        check.due("drop", x.drop(1, 0), 2);
        puts(x, 1, 0, 1);
        exchange(x, 120, 0, 0, 1, 0);
        check.due("swap", x.swap(0, 0, 1, 0), 0);
        check.due("ROUND of o", x.round(0, 1) + x.round(0, 2) + x.round(0, 3), 0);
        exchange(x, 0, -1, -1, -1, -1);
    }

    // 29: "(the first ones by 3 times GAME and SEAT)"
    private static void exchangeFirstOnes() {
        WhistleRoster x = Check.of(GROUND + "one o 3 at a;one p 3 at b;rest 0;game k l at b on 1 0 for 10 grade 1 by 3;game k l at a on 2 0 for 10 grade 1 by 3;"
            + "game k l at b on 3 0 for 10 grade 1 by 3;game k l at a on 4 0 for 10 grade 1 by 3;");
        puts(x, 0, 2, 0, 1, 1, 1, 2, 0, 0, 3, 2, 1);
        exchange(x, 120, 0, 2, 1, 1);
        check.due("drop", x.drop(1, 1), 1);
        exchange(x, 120, 0, 2, 3, 2);
        check.due("drop", x.drop(0, 2), 0);
        exchange(x, 120, 2, 0, 3, 2);
        puts(x, 0, 0, 1, 1, 0, 0);
        exchange(x, 120, 2, 0, 3, 2);
        days(x, 3);
        exchange(x, 120, 2, 0, 3, 2);
        days(x, 4);
        exchange(x, 0, -1, -1, -1, -1);
        // the shortest of all, though not the first
        x = Check.of(GROUND + "one o 3 at a;one p 3 at c;rest 0;game k l at b on 1 0 for 10 grade 1;game k l at a on 2 0 for 10 grade 1;game k l at c on 3 0 for 10 grade 1;");
        puts(x, 0, 0, 0, 1, 0, 1, 2, 0, 0);
        // GAMES 0, 1: 60 + 100 for 0 + 40; GAMES 1, 2: 100 + 100 for 0
        exchange(x, 200, 1, 0, 2, 0);
    }

    // 29: "all ROUNDS together": of both OFFICIALS, on both DAYS
    private static void exchangeOnTwoDays() {
        // each has a GAME of either DAY: both have their way once, if one has both of a DAY
        WhistleRoster x = Check.of(GROUND + "one o 3 at a;one p 3 at a;rest 0;game k l at b on 1 0 for 10 grade 1;game k l at b on 1 100 for 10 grade 1;"
            + "game k l at b on 2 0 for 10 grade 1;game k l at b on 2 100 for 10 grade 1;");
        puts(x, 0, 0, 0, 1, 0, 1, 2, 0, 0, 3, 0, 1);
        check.due("ROUNDS", x.round(0, 1) + x.round(0, 2) + x.round(1, 1) + x.round(1, 2), 240);
        exchange(x, 120, 0, 0, 3, 0);
        check.due("o has both of DAY 1 then", x.swap(1, 0, 2, 0), 0);
        exchange(x, 0, -1, -1, -1, -1);
        check.due("ROUNDS", x.round(0, 1) * 1000 + x.round(1, 2), 60060);
        check.due("undo", x.undo(), 4);
        exchange(x, 120, 0, 0, 3, 0);
        // what is shorter for one and as much longer for the other is by none
        x = Check.of(GROUND + "one o 3 at a;one p 3 at a;rest 0;game k l at b on 1 0 for 10 grade 1;game k l at a on 2 0 for 10 grade 1;");
        puts(x, 0, 0, 0, 1, 0, 1);
        check.due("it can be", x.could(0, 0, 1, 0), 0);
        exchange(x, 0, -1, -1, -1, -1);
    }

    // 30: "NONE: no such OFFICIAL, DAY"
    private static void roundsOfNobody() {
        WhistleRoster x = Check.of(GROUND + "one o 1 at a;game k l at b on 0 0 for 10 grade 1;game k l at b on 6 0 for 10 grade 1;");
        puts(x, 0, 0, 0, 1, 0, 0);
        check.due("DAY 0", x.round(0, 0), 60);
        check.due("DAY 6", x.round(0, 6), 60);
        check.due("DAY 5", x.round(0, 5), 0);
        int[][] none = {{0, 7}, {0, 8}, {0, -1}, {0, LOW}, {0, HIGH}, {1, 0}, {-1, 0}, {10, 0}, {LOW, 0}, {HIGH, 0}};
        for (int[] a : none) {
            check.due("round(" + a[0] + ", " + a[1] + ")", x.round(a[0], a[1]), -1);
            for (int what = 0; what < 4; what++) {
                check.due("trip(" + a[0] + ", " + a[1] + ", " + what + ")", x.trip(a[0], a[1], what), -10000);
            }
        }
    }

    private static void trip(WhistleRoster x, int official, int day, int... due) {
        for (int what = 0; what < 4; what++) {
            check.due("trip(" + official + ", " + day + ", " + what + ")", x.trip(official, day, what), due[what]);
        }
        for (int what : new int[] {4, 5, -1, LOW, HIGH}) {
            check.due("trip(" + official + ", " + day + ", " + what + ")", x.trip(official, day, what), -10000);
        }
    }

    // 31: "(may be below 0)"; "-10000: ... no GAME that DAY (0, 1)"
    private static void tripsAtTheirEdges() {
        WhistleRoster x = Check.of("field a;field b;field c;field e;field f;field g;road a b 240;road b c 240;road c e 240;road e f 240;road f g 240;club k;club l;"
            + "one o 1 at a;rest 120;game k l at g on 0 0 for 140 grade 1;game k l at g on 1 1299 for 140 grade 1;game k l at a on 2 0 for 10 grade 1;"
            + "game k l at g on 2 1299 for 10 grade 1;game k l at a on 3 120 for 10 grade 1;game k l at a on 3 119 for 10 grade 1;");
        trip(x, 0, 0, -10000, -10000, 0, 0);
        puts(x, 0, 0, 0, 1, 0, 0, 2, 0, 0, 4, 0, 0);
        trip(x, 0, 0, -1320, 1340, 32, 1);
        trip(x, 0, 1, 1299 - 1320, 1439 + 1200, 32, 1);
        trip(x, 0, 2, -120, 10, 1, 1);
        trip(x, 0, 3, 0, 130, 1, 1);
        trip(x, 0, 4, -10000, -10000, 0, 0);
        trip(x, 0, 6, -10000, -10000, 0, 0);
        check.due("too near by a way of 1200", x.put(3, 0, 0), -10);
        check.due("drop", x.drop(4, 0), 0);
        puts(x, 5, 0, 0);
        trip(x, 0, 3, -1, 129, 1, 1);
        // the first and the last as they begin, not as they are told
        x = Check.of(GROUND + "one o 1 at a;rest 0;game k l at b on 0 500 for 10 grade 1;game k l at a on 0 900 for 20 grade 1;game k l at b on 0 100 for 30 grade 1;");
        puts(x, 0, 0, 0, 1, 0, 0, 2, 0, 0);
        trip(x, 0, 0, 70, 920, 3, 3);
        days(x, 1);
        trip(x, 0, 0, 70, 920, 3, 3);
    }

    // 32: "(2; the first each). NONE: no OFFICIALS, another what."
    private static void spreads() {
        WhistleRoster x = Check.of(GROUND + "one o 1 at a;one p 1 at a;one q 1 at a;game k l at a on 0 0 for 10 grade 1 by 3;game k l at a on 1 0 for 10 grade 1 by 3;");
        int[][] due = {{0, 0, 0}, {1, 1, 0}, {1, 1, 0}, {1, 0, 0}, {1, 0, 1}};
        int[][] put = {{0, 0, 1}, {0, 1, 2}, {0, 2, 0}, {1, 0, 0}};
        for (int i = 0; i < due.length; i++) {
            boolean all = i == 3;
            for (int what = 0; what < 3; what++) {
                check.due("spread(" + what + ") with " + i, x.spread(what), all ? 0 : due[i][what]);
            }
            if (i < put.length) {
                puts(x, put[i]);
            }
        }
        for (int what : new int[] {3, -1, LOW, HIGH}) {
            check.due("spread(" + what + ")", x.spread(what), -1);
        }
        for (int what = -1; what < 4; what++) {
            check.due("no OFFICIALS", Check.of(GROUND + "game k l at a on 0 0 for 10 grade 1;").spread(what), -1);
        }
        check.due("one alone", Check.of(GROUND + "one o 1 at a;").spread(1), 0);
        check.due("one alone", Check.of(GROUND + "one o 1 at a;").spread(2), 0);
        days(x, 1);
        check.due("PLAYED ones count", x.spread(1), 0);
    }

    // 33: "NONE: it is 7", and 34: "NONE: TODAY is 7"
    private static void daysUpToSeven() {
        WhistleRoster x = Check.of(GROUND + "one o 1 at a;game k l at a on 6 0 for 10 grade 1;");
        puts(x, 0, 0, 0);
        days(x, 6);
        check.due("play to 7", x.play(0), 1);
        for (int i = 0; i < 3; i++) {
            check.due("day", x.day(), -1);
            check.due("play", x.play(i), -1);
            check.due("TODAY", x.has(6), 7);
        }
        check.due("the MARK stays", x.seat(0, 0, 1), 0);
        check.due("ACTS", x.has(9), 8);
        check.due("undo", x.undo(), 7);
        check.due("TODAY", x.has(6), 6);
        check.due("day to 7", x.day(), 7);
        check.due("no MARK", x.seat(0, 0, 1), -1);
    }

    // 34: "all SEATS that are taken of GAMES that are PLAYED now and weren't get a MARK by a DRAW each, GAME by GAME: how many"
    private static void playOfTheDay() {
        WhistleRoster x = Check.of(GROUND + "one o 1 at a;one p 1 at a;one q 1 at a;rest 0;game k l at a on 1 500 for 10 grade 1 by 3;game k l at a on 0 0 for 10 grade 1;"
            + "game k l at a on 1 0 for 10 grade 1 by 2;game k l at a on 2 0 for 10 grade 1;");
        puts(x, 0, 0, 2, 0, 2, 0, 1, 0, 1, 2, 1, 1, 3, 0, 0);
        check.due("to DAY 0: none", x.play(1), 0);
        check.due("an ACT", x.has(9), 6);
        check.due("the GAMES of DAY 0", x.play(1), 1);
        check.due("its MARK", x.seat(1, 0, 1), 72);
        check.due("not of DAY 1", x.seat(0, 0, 1), -1);
        check.due("the GAMES of DAY 1", x.play(1), 3);
        int z = 1;
        int[][] seats = {{0, 0}, {0, 2}, {2, 1}};
        for (int[] seat : seats) {
            z = z * 1103515245 + 12345;
            check.due("a DRAW each", x.seat(seat[0], seat[1], 1), Integer.toUnsignedLong(z) / 65536 % 101);
        }
        check.due("nobody there", x.seat(0, 1, 1), -1);
        check.due("nobody there", x.seat(2, 0, 1), -1);
        check.due("its MARK stays", x.seat(1, 0, 1), 72);
        check.due("MARKS", x.one(1, 4), 2);
        check.due("day", x.day(), 3);
        check.due("PLAYED without a MARK", x.play(1), 0);
        check.due("none comes later", x.seat(3, 0, 1), -1);
        check.due("but by mark()", x.mark(3, 0, 100) >= 0, true);
    }

    // 35: "NONE: there is none such, nobody has it, the GAME is not PLAYED, it has one, or it can't be"
    private static void markRefused() {
        WhistleRoster x = Check.of(GROUND + "one o 1 at a;rest 0;game k l at a on 1 0 for 10 grade 1 by 2;game k l at a on 2 0 for 10 grade 1;game k l at a on 1 100 for 10 grade 1;");
        puts(x, 0, 0, 0, 1, 0, 0, 2, 0, 0);
        check.due("ahead", x.mark(0, 0, 50), -1);
        days(x, 1);
        check.due("LATE", x.mark(0, 0, 50), -1);
        days(x, 2);
        int[][] none = {{3, 0, 50}, {-1, 0, 50}, {16, 0, 50}, {LOW, 0, 50}, {HIGH, 0, 50}, {0, 2, 50}, {0, -1, 50}, {0, LOW, 50}, {0, HIGH, 50},
            {0, 1, 50}, {1, 0, 50}, {0, 0, -1}, {0, 0, 101}, {0, 0, LOW}, {0, 0, HIGH}};
        for (int[] a : none) {
            check.due("mark(" + a[0] + ", " + a[1] + ", " + a[2] + ")", x.mark(a[0], a[1], a[2]), -1);
        }
        check.due("FORM", x.formBits(0), 0x42480000);
        check.due("ACTS", x.has(9), 6);
        check.due("0 can be", x.mark(0, 0, 0), 37);
        check.due("it has one", x.mark(0, 0, 0), -1);
        check.due("it has one", x.mark(0, 0, 100), -1);
        check.due("100 can be", x.mark(2, 0, 100), 53);
        check.due("MARKS", x.one(0, 4), 2);
        check.due("ACTS", x.has(9), 8);
    }

    /** Officials of such grades, each with GAMES of its own: their marks are told, NONE for no mark. */
    private static WhistleRoster judged(int[] grades, int[]... marks) {
        StringBuilder text = new StringBuilder(GROUND).append("rest 0;most 4;");
        for (int o = 0; o < grades.length; o++) {
            text.append("one x").append((char) ('a' + o)).append(' ').append(grades[o]).append(" at a;");
        }
        // SEAT o % 3 of GAME 4 * (o / 3) and those behind it
        for (int g = 0; g < 16; g++) {
            text.append("game k l at a on ").append(g / 4).append(' ').append(g % 4 * 50).append(" for 10 grade 1 by 3;");
        }
        WhistleRoster x = Check.of(text.toString());
        for (int o = 0; o < marks.length; o++) {
            for (int i = 0; i < marks[o].length; i++) {
                puts(x, 4 * (o / 3) + i, o % 3, o);
            }
        }
        days(x, 4);
        for (int o = 0; o < marks.length; o++) {
            for (int i = 0; i < marks[o].length; i++) {
                check.due("mark", x.mark(4 * (o / 3) + i, o % 3, marks[o][i]) >= 0, true);
            }
        }
        return x;
    }

    private static void grades(String what, WhistleRoster x, int... due) {
        for (int o = 0; o < due.length; o++) {
            check.due(what + ", GRADE of " + o, x.one(o, 0), due[o]);
        }
    }

    // 36: "of each GRADE below 5 ... one GRADE more"; "of each above 1 ... one less"
    private static void reviewOfEachGrade() {
        int[] high = {100, 100};
        int[] low = {0, 0};
        WhistleRoster x = judged(new int[] {1, 2, 3, 4, 5}, high, high, high, high, high);
        check.due("review", x.review(1, 1), 4);
        grades("up", x, 2, 3, 4, 5, 5);
        x = judged(new int[] {1, 2, 3, 4, 5}, low, low, low, low, low);
        check.due("review", x.review(1, 1), 4);
        grades("down", x, 1, 1, 2, 3, 4);
        x = judged(new int[] {5, 4, 3, 2, 1, 1, 2, 3, 4, 5}, high, high, high, high, high, low, low, low, low, low);
        check.due("review", x.review(9, 9), 8);
        grades("both", x, 5, 5, 4, 3, 2, 1, 1, 2, 3, 4);
        check.due("MARKS are 0 then", x.one(0, 4) + x.one(9, 4) + x.one(5, 4), 0);
        check.due("again: without MARKS none", x.review(9, 9), 0);
        grades("again", x, 5, 5, 4, 3, 2, 1, 1, 2, 3, 4);
    }

    // 36: "with 2 MARKS or more and FORM of 60 or more"; "FORM below 40"
    private static void reviewAtTheEdges() {
        // 50, 100: 62.5, 1 MARK; 60: 60 of (90, 60) exactly; (90, 59): 59.75; three MARKS; (10, 40): 40 exactly; (10, 39): 39.75; 0: 37.5, 1 MARK
        int[][] marks = {{100}, {90, 60}, {90, 59}, {80, 80, 80}, {10, 40}, {10, 39}, {0}, {20, 20, 20}, {100, 100, 100, 100}, {}};
        int[] forms = {62, 60, 59, 67, 40, 39, 37, 32, 84, 50};
        WhistleRoster x = judged(new int[] {3, 3, 3, 3, 3, 3, 3, 3, 3, 3}, marks);
        for (int o = 0; o < 10; o++) {
            check.due("FORM of " + o, x.one(o, 5), forms[o]);
            check.due("MARKS of " + o, x.one(o, 4), marks[o].length);
        }
        check.due("60 exactly", x.formBits(1), Float.floatToIntBits(60f));
        check.due("40 exactly", x.formBits(4), Float.floatToIntBits(40f));
        check.due("review", x.review(9, 9), 5);
        grades("edges", x, 3, 4, 3, 4, 3, 2, 3, 2, 4, 3);
        for (int o = 0; o < 10; o++) {
            check.due("MARKS of all are 0 then", x.one(o, 4), 0);
            check.due("FORM stays", x.one(o, 5), forms[o]);
        }
    }

    // 36: "the first up (0 .. 9)", "the last down (0 .. 9)"; "by what all are ahead of it"; "NONE: up, down can't be"
    private static void reviewUpAndDown() {
        int[] high = {100, 100};
        int[] low = {0, 0};
        int[] three = {3, 3, 3, 3, 3, 3, 3, 3, 3, 3};
        int[][] none = {{-1, 0}, {0, -1}, {10, 0}, {0, 10}, {LOW, 0}, {0, LOW}, {HIGH, 0}, {0, HIGH}, {-1, -1}};
        WhistleRoster x = judged(three, high, high, high, high, high, high, high, high, high, high);
        int acts = x.has(9);
        for (int[] a : none) {
            check.due("review(" + a[0] + ", " + a[1] + ")", x.review(a[0], a[1]), -1);
        }
        check.due("nothing happens", x.has(9) * 100 + x.one(0, 4), acts * 100 + 2);
        for (int up = 0; up <= 9; up++) {
            check.due("up " + up, x.review(up, 9), up);
            for (int o = 0; o < 10; o++) {
                check.due("the first " + up, x.one(o, 0), o < up ? 4 : 3);
            }
            check.due("undo", x.undo(), 7);
        }
        x = judged(three, low, low, low, low, low, low, low, low, low, low);
        for (int down = 0; down <= 9; down++) {
            check.due("down " + down, x.review(9, down), down);
            for (int o = 0; o < 10; o++) {
                check.due("the last " + down, x.one(o, 0), o >= 10 - down ? 2 : 3);
            }
            check.due("undo", x.undo(), 7);
        }
        // nobody goes two up, or up and down: who comes into a GRADE is not of it yet
        x = judged(new int[] {2, 3, 3, 4}, high, high, low, low);
        check.due("review", x.review(9, 9), 4);
        grades("by what all are ahead of it", x, 3, 4, 2, 3);
        x = judged(new int[] {2, 3}, new int[] {100, 100, 100}, high);
        check.due("review", x.review(1, 0), 2);
        grades("one up of each GRADE", x, 3, 4);
    }

    // 37: "The i-th of all OFFICIALS by that order": FORM (the greater first), MARKS (the more first), numbers
    private static void ranks() {
        // FORM 50: none, 50, 50 50; 62.5: 100; 37.5: 0 twice
        WhistleRoster x = judged(new int[] {1, 2, 3, 4, 5, 1}, new int[] {}, new int[] {0}, new int[] {50}, new int[] {100}, new int[] {50, 50}, new int[] {0});
        int[] due = {3, 4, 2, 0, 1, 5};
        for (int i = 0; i < 6; i++) {
            check.due("rank(" + i + ")", x.rank(i), due[i]);
        }
        for (int i : new int[] {6, 7, 10, -1, LOW, HIGH}) {
            check.due("rank(" + i + ")", x.rank(i), -1);
        }
        check.due("no OFFICIALS", Check.of("field a;").rank(0), -1);
        WhistleRoster y = Check.of("field a;one o 1 at a;one p 5 at a;");
        check.due("all alike: numbers", y.rank(0) * 10 + y.rank(1), 1);
    }

    // 38: "how many can be yet. NONE: none."
    private static void undoNone() {
        WhistleRoster x = Check.of(GROUND + "one o 1 at a;game k l at a on 1 0 for 10 grade 1;");
        check.due("none", x.undo(), -1);
        puts(x, 0, 0, 0);
        check.due("one", x.undo(), 0);
        check.due("none", x.undo(), -1);
        check.due("none", x.undo(), -1);
        check.due("ACTS", x.has(9), 0);
        puts(x, 0, 0, 0);
        days(x, 3);
        check.due("mark", x.mark(0, 0, 100), 62);
        check.due("review", x.review(1, 1), 0);
        check.due("ACTS", x.has(9), 7);
        check.due("undo of the review", x.undo(), 6);
        check.due("MARKS", x.one(0, 4), 1);
        check.due("undo of the mark", x.undo(), 5);
        check.due("FORM", x.formBits(0), 0x42480000);
        check.due("MARK", x.seat(0, 0, 1), -1);
        for (int i = 4; i > 0; i--) {
            check.due("undo of a day", x.undo(), i);
            check.due("TODAY", x.has(6), i - 2);
        }
        check.due("undo of the put", x.undo(), 0);
        check.due("nobody", x.seat(0, 0, 0), -1);
    }

    // 39: "NoSuchElementException: no such SHELF. IllegalArgumentException: another sort, not so many."
    private static void shelfRefused() {
        WhistleRoster x = Check.of(GROUND + "one o 1 at a;");
        for (int s = 0; s < 3; s++) {
            int shelf = s;
            for (int sort = 0; sort < 2; sort++) {
                for (int many : new int[] {0, 1, 19, 20}) {
                    check.due("shelf(" + s + ", " + sort + ", " + many + ")", x.shelf(s, sort, many), many);
                    for (int place = 0; place < many; place++) {
                        check.due("empty", x.look(s, place), -1);
                    }
                    check.throwsOut("no more", NO_SUCH, () -> x.look(shelf, many));
                }
            }
            check.due("lay", x.lay(s, 0, 0, true), true);
            int[][] illegal = {{-1, 1}, {2, 1}, {LOW, 1}, {HIGH, 1}, {0, -1}, {0, 21}, {1, LOW}, {1, HIGH}, {1, 21}, {2, 21}, {-1, -1}};
            for (int[] a : illegal) {
                check.throwsOut("shelf(" + s + ", " + a[0] + ", " + a[1] + ")", ILLEGAL, () -> x.shelf(shelf, a[0], a[1]));
            }
            check.due("changes nothing", x.look(s, 0), 15);
            check.due("changes nothing", x.look(s, 19), -1);
        }
        for (int shelf : new int[] {-1, 3, 4, LOW, HIGH}) {
            check.throwsOut("no such SHELF", NO_SUCH, () -> x.shelf(shelf, 0, 5));
            check.throwsOut("no such SHELF, another sort", NO_SUCH, () -> x.shelf(shelf, 2, 5));
            check.throwsOut("no such SHELF, not so many", NO_SUCH, () -> x.shelf(shelf, 0, 21));
        }
    }

    // 40: "false, and nothing changes: the SHELF is for the other sort. NoSuchElementException: no such SHELF, place, OFFICIAL."
    private static void laysRefused() {
        WhistleRoster x = Check.of(GROUND + "one o 1 at a;one pq 1 at a;");
        check.throwsOut("one that was not made", NO_SUCH, () -> x.lay(0, 0, 0, false) ? 1 : 0);
        check.throwsOut("one that was not made", NO_SUCH, () -> x.lay(0, 0, 0, true) ? 1 : 0);
        check.due("shelf", x.shelf(0, 0, 0), 0);
        check.throwsOut("a SHELF of no places", NO_SUCH, () -> x.lay(0, 0, 0, false) ? 1 : 0);
        check.due("shelf", x.shelf(0, 0, 2), 2);
        check.due("shelf", x.shelf(1, 1, 2), 2);
        check.due("a number", x.lay(0, 1, 0, false), true);
        check.due("a NAME", x.lay(1, 1, 1, true), true);
        check.due("a NAME for numbers", x.lay(0, 1, 1, true), false);
        check.due("a number for NAMES", x.lay(1, 1, 0, false), false);
        check.due("a NAME for numbers, an empty place", x.lay(0, 0, 1, true), false);
        check.due("a number for NAMES, an empty place", x.lay(1, 0, 0, false), false);
        check.due("nothing changes", x.look(0, 1), 0x42480000);
        check.due("nothing changes", x.look(1, 1), 16 * 27 + 17);
        check.due("nothing changes", x.look(0, 0), -1);
        check.due("nothing changes", x.look(1, 0), -1);
        for (int shelf = 0; shelf < 2; shelf++) {
            int s = shelf;
            for (boolean named : new boolean[] {false, true}) {
                for (int place : new int[] {-1, 2, 19, 20, LOW, HIGH}) {
                    check.throwsOut("no such place " + place, NO_SUCH, () -> x.lay(s, place, 0, named) ? 1 : 0);
                }
                for (int o : new int[] {-1, 2, 10, LOW, HIGH}) {
                    check.throwsOut("no such OFFICIAL " + o, NO_SUCH, () -> x.lay(s, 1, o, named) ? 1 : 0);
                }
                for (int none : new int[] {-1, 2, 3, LOW, HIGH}) {
                    check.throwsOut("no such SHELF " + none, NO_SUCH, () -> x.lay(none, 0, 0, named) ? 1 : 0);
                }
            }
        }
        check.due("changes nothing", x.look(0, 1), 0x42480000);
        check.due("changes nothing", x.look(1, 1), 16 * 27 + 17);
        check.due("no ACTS", x.has(9), 0);
    }

    // 41: "the number; of a NAME its letters as a number to the base 27 (a is 1, .., the first counts most). NONE: it is empty."
    private static void looks() {
        WhistleRoster x = Check.of("field f;one a 1 at f;one z 1 at f;one aa 1 at f;one az 1 at f;one za 1 at f;one zzzzzz 1 at f;one aaaaaa 1 at f;");
        long[] due = {1, 26, 28, 53, 703, 387420488L, 14900788L};
        check.due("shelf", x.shelf(2, 1, 20), 20);
        for (int o = 0; o < due.length; o++) {
            check.due("empty", x.look(2, 13 + o), -1);
            check.due("lay", x.lay(2, 13 + o, o, true), true);
            check.due("look", x.look(2, 13 + o), due[o]);
            check.due("look again", x.look(2, 13 + o), due[o]);
        }
        for (int place : new int[] {-1, 20, 21, LOW, HIGH}) {
            check.throwsOut("no such place", NO_SUCH, () -> x.look(2, place));
        }
        for (int shelf : new int[] {0, 1, 3, -1, LOW, HIGH}) {
            check.throwsOut("no such SHELF, or not made", NO_SUCH, () -> x.look(shelf, 0));
        }
        check.due("lay on it", x.lay(2, 19, 0, true), true);
        check.due("look", x.look(2, 19), 1);
        check.due("made anew", x.shelf(2, 0, 20), 20);
        check.due("empty", x.look(2, 19), -1);
        check.due("of numbers now", x.lay(2, 19, 0, true), false);
        check.due("of numbers now", x.lay(2, 19, 0, false), true);
        check.due("look", x.look(2, 19), 0x42480000);
    }

    private static int again(WhistleRoster x, String text) {
        Check.feed(x, text);
        return x.week();
    }

    // 4: "is the WEEK from now on": nothing of those ahead of it is left, three in a row and back again
    private static void weeksInARow() {
        String[] weeks = {"one o 1 at a;game k l at b on 0 0 for 10 grade 1;game k l at a on 0 100 for 10 grade 1;",
            "one o 2 at c;game k l at c on 3 0 for 10 grade 1;game k l at a on 3 300 for 10 grade 1;",
            "one o 3 at b;game k l at a on 5 0 for 10 grade 1;game k l at b on 6 0 for 10 grade 1;"};
        int[][] rounds = {{60, 0, 0, 0, 0, 0, 0}, {0, 0, 0, 100, 0, 0, 0}, {0, 0, 0, 0, 0, 60, 0}};
        int[][] fields = {{3, 0, 0, 0, 0, 0, 0}, {0, 0, 0, 5, 0, 0, 0}, {0, 0, 0, 0, 0, 1, 2}};
        WhistleRoster x = new WhistleRoster();
        for (int w : new int[] {0, 1, 2, 0, 2, 1, 0, 0}) {
            check.due("week()", again(x, GROUND + weeks[w]), 2);
            check.due("GRADE", x.one(0, 0), w + 1);
            check.due("MARKS", x.one(0, 4), 0);
            check.due("FORM", x.one(0, 5), 50);
            check.due("nobody", x.seat(0, 0, 0) + x.seat(1, 0, 0), -2);
            check.due("no MARK", x.seat(0, 0, 1), -1);
            puts(x, 0, 0, 0, 1, 0, 0);
            for (int d = 0; d < 7; d++) {
                check.due("ROUND on DAY " + d, x.round(0, d), rounds[w][d]);
                check.due("FIELDS on DAY " + d, x.trip(0, d, 2), fields[w][d]);
            }
            days(x, 7);
            check.due("marks", x.mark(0, 0, 100) + x.mark(1, 0, 100), 62 + 71);
            check.due("review", x.review(9, 9), 1);
            check.due("undo", x.undo(), 7);
        }
    }
}
