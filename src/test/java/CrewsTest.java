/** Promises 25 to 29: crews, all free seats filled, who steps in, seats that are not sound, the best exchange. */
public final class CrewsTest {
    private static final Check check = new Check("CrewsTest");
    private static final String GROUND = "field a;field b;field c;field z;road a b 30;road b c 20;club k;club l;club m;club n;";

    public static void main(String[] args) {
        crewOfLeastMinutes();
        crewAroundSeatsTaken();
        crewThatCannotBe();
        filled();
        filledByGoingBack();
        filledInNoWay();
        filledInTooManyTries();
        stepDirectly();
        stepByAnother();
        stepByTheFirst();
        stepByNobody();
        unsoundSeats();
        bestExchange();
        noExchange();
        check.close();
    }

    private static void crew(WhistleRoster x, int game, int... due) {
        for (int what = 0; what < due.length; what++) {
            check.due("crew(" + game + ", " + what + ")", x.crew(game, what), due[what]);
        }
    }

    private static void crewOfLeastMinutes() {
        // the nearest official of all may not take seat 0; the nearest for seat 0 is needed there
        WhistleRoster x = Check.of(GROUND + "one p 1 at a;one q 5 at c;one r 3 at b;one s 2 at b;one t 2 at b;"
            + "game k l at a on 0 100 for 60 grade 3 by 3;game k l at a on 0 300 for 60 grade 2 by 2;game k l at a on 0 500 for 60 grade 1 by 1;");
        crew(x, 0, 60 + 60 + 60, 2, 3, 4, -1);
        crew(x, 1, 60, 2, 0, -1);
        crew(x, 2, 0, 0, -1);
        check.due("another what", x.crew(0, -1), -1);
        check.due("another what", x.crew(0, 4), -1);
        check.due("another what", x.crew(0, Integer.MAX_VALUE), -1);
        check.due("another what", x.crew(0, Integer.MIN_VALUE), -1);
        check.due("none such", x.crew(3, 0), -1);
        check.due("none such", x.crew(-1, 0), -1);
        check.due("nobody was put in", x.has(8) + x.has(9), 0);
        check.due("put", x.put(2, 0, 3), 0);
        crew(x, 0, 60 + 0 + 60, 2, 3, 4);
        crew(x, 1, 0 + 0, 3, 0);
    }

    private static void crewAroundSeatsTaken() {
        WhistleRoster x = Check.of(GROUND + "one p 3 at a;one q 3 at a;one r 3 at b;one s 3 at a;"
            + "game k l at a on 0 100 for 60 grade 3 by 3;");
        check.due("put", x.put(0, 1, 0), 0);
        crew(x, 0, 0, 1, 0, 3, -1);
        check.due("put", x.put(0, 2, 2), 0);
        crew(x, 0, 0, 1, 0, 2, -1);
        check.due("put", x.put(0, 0, 3), 0);
        crew(x, 0, 0, 3, 0, 2, -1);
        check.due("days", x.day() + x.day(), 1);
        crew(x, 0, -1, -1, -1, -1);
        x = Check.of(GROUND + "one p 3 at a;one q 3 at b;game k l at b on 0 100 for 60 grade 3 by 2;");
        check.due("day", x.day(), 0);
        crew(x, 0, 60, 0, 1);
    }

    private static void crewThatCannotBe() {
        WhistleRoster x = Check.of(GROUND + "one p 3 at a;one q 3 at b;one r 2 at b;game k l at a on 0 100 for 60 grade 3 by 3;"
            + "game k l at a on 1 100 for 60 grade 4 by 3;game k l at a on 2 100 for 60 grade 3 by 3;off p 2;");
        crew(x, 0, 120, 0, 1, 2);
        crew(x, 1, -1, -1, -1, -1);
        crew(x, 2, -1, -1, -1, -1);
        check.due("put", x.put(0, 1, 0), 0);
        crew(x, 0, 120, 1, 0, 2);
        check.due("put", x.put(0, 0, 1), 0);
        crew(x, 0, 60, 1, 0, 2);
    }

    private static void filled() {
        WhistleRoster x = Check.of(GROUND + "one p 3 at a;one q 3 at b;one r 2 at b;"
            + "game k l at a on 0 100 for 60 grade 3;game k l at a on 1 100 for 60 grade 3 by 2;"
            + "game k l at a on 2 100 for 60 grade 3 by 3;game k l at b on 2 130 for 30 grade 1;most 1;");
        check.due("in no way", x.fill(), -1);
        check.due("nothing", x.has(8) * 10 + x.has(9), 0);
        x = Check.of(GROUND + "one p 3 at a;one q 3 at b;one r 2 at b;"
            + "game k l at a on 0 100 for 60 grade 3;game k l at a on 1 100 for 60 grade 3 by 2;"
            + "game k l at a on 2 100 for 60 grade 3 by 2;game k l at b on 2 130 for 30 grade 1;");
        check.due("put", x.put(2, 0, 1), 0);
        check.due("days", x.day() + x.day(), 1);
        check.due("fill", x.fill(), 2);
        check.due("played", x.seat(0, 0, 0), -1);
        check.due("late", x.seat(1, 0, 0), -1);
        check.due("late", x.seat(1, 1, 0), -1);
        check.due("was taken", x.seat(2, 0, 0), 1);
        check.due("by numbers", x.seat(2, 1, 0), 0);
        check.due("who is left", x.seat(3, 0, 0), 2);
        check.due("acts", x.has(9), 4);
        check.due("again", x.fill(), 0);
        check.due("acts", x.has(9), 4);
        check.due("undo", x.undo(), 3);
        check.due("free again", x.seat(2, 1, 0), -1);
        check.due("taken still", x.seat(2, 0, 0), 1);
    }

    private static void filledByGoingBack() {
        WhistleRoster x = Check.of(GROUND + "one p 3 at a;one q 3 at b;one r 3 at b;most 1;"
            + "game k l at a on 0 100 for 60 grade 1;game k l at a on 0 200 for 60 grade 3;game m n at a on 0 300 for 60 grade 3;"
            + "one s 2 at a no m;one t 5 at a no m no k;");
        check.due("fill", x.fill(), 3);
        check.due("seats", x.seat(0, 0, 0) * 100 + x.seat(1, 0, 0) * 10 + x.seat(2, 0, 0), 12);
        x = Check.of(GROUND + "one p 3 at a;one q 2 at b;most 1;"
            + "game k l at a on 0 100 for 60 grade 1;game k l at a on 0 200 for 60 grade 3;");
        check.due("fill", x.fill(), 2);
        check.due("the first makes way", x.seat(0, 0, 0), 1);
        check.due("for the second", x.seat(1, 0, 0), 0);
        check.due("one act", x.has(9), 1);
    }

    private static void filledInNoWay() {
        WhistleRoster x = Check.of(GROUND + "one p 3 at a;game k l at a on 0 100 for 60 grade 3;game k l at a on 0 100 for 60 grade 3;"
            + "game k l at a on 1 100 for 60 grade 3;");
        check.due("put", x.put(2, 0, 0), 0);
        check.due("fill", x.fill(), -1);
        check.due("seats", x.has(8), 1);
        check.due("the one that was", x.seat(2, 0, 0), 0);
        check.due("acts", x.has(9), 1);
        check.due("nothing to fill", new WhistleRoster().fill(), 0);
    }

    /** So many officials may on each day, on the last nobody: all ways are gone through. */
    private static WhistleRoster exhausting(String ones, int... grades) {
        StringBuilder text = new StringBuilder(GROUND);
        for (int o = 0; o < ones.length(); o++) {
            text.append("one o").append((char) ('a' + o)).append(' ').append(ones.charAt(o)).append(" at a;");
        }
        for (int g = 0; g < grades.length; g++) {
            text.append("game k l at a on ").append(g).append(" 0 for 10 grade ").append(grades[g]).append(';');
        }
        return Check.of(text.toString());
    }

    private static void filledInTooManyTries() {
        // 8 + 8*7 + 8*7*4 + 8*7*4*8 + 8*7*4*8*10 = 20000
        WhistleRoster x = exhausting("1123334444", 2, 3, 4, 2, 1, 5);
        check.due("20000 times", x.fill(), -1);
        check.due("nothing", x.has(8) * 10 + x.has(9), 0);
        // 3 + 3*6 + 3*6*10 + 3*6*10*10 + 3*6*10*10*10 = 20001
        x = exhausting("1111222333", 3, 2, 1, 1, 1, 5);
        check.due("put", x.put(4, 0, 3), 0);
        check.due("drop", x.drop(4, 0), 3);
        check.due("20001 times", x.fill(), -2);
        check.due("nothing", x.has(8), 0);
        check.due("acts", x.has(9), 2);
        for (int g = 0; g < 6; g++) {
            check.due("seat", x.seat(g, 0, 0), -1);
        }
        check.due("free still", x.able(4, 0), 1023);
        check.due("put", x.put(0, 0, 9), 0);
        check.due("less times", x.fill(), -1);
        check.due("undo", x.undo(), 2);
    }

    private static void step(WhistleRoster x, int game, int seat, int... due) {
        for (int what = 0; what < 5; what++) {
            check.due("steps(" + game + ", " + seat + ", " + what + ")", x.steps(game, seat, what), due[what]);
        }
        check.due("another what", x.steps(game, seat, 5), -1);
        check.due("another what", x.steps(game, seat, -1), -1);
    }

    private static void stepDirectly() {
        WhistleRoster x = Check.of(GROUND + "one p 3 at a;one q 3 at a;one r 3 at a;one s 1 at a;"
            + "game k l at a on 0 100 for 60 grade 3 by 2;game k l at a on 0 120 for 60 grade 3;");
        check.due("puts", x.put(0, 0, 0) + x.put(0, 1, 2), 0);
        step(x, 0, 0, 1, 1, -1, -1, -1);
        step(x, 0, 1, 1, 1, -1, -1, -1);
        check.due("put", x.put(1, 0, 1), 0);
        step(x, 1, 0, -1, -1, -1, -1, -1);
        check.due("seats stay", x.seat(0, 0, 0) * 100 + x.seat(0, 1, 0) * 10 + x.seat(1, 0, 0), 21);
        check.due("free", Check.of(GROUND + "one p 1 at a;game k l at a on 0 0 for 60 grade 1;").steps(0, 0, 0), -1);
        check.due("none such", x.steps(2, 0, 0), -1);
        check.due("none such", x.steps(0, 2, 0), -1);
        check.due("none such", x.steps(-1, 0, 0), -1);
        check.due("none such", x.steps(0, -1, 0), -1);
        check.due("drop", x.drop(1, 0), 1);
        check.due("day", x.day(), 0);
        step(x, 0, 0, 1, 1, -1, -1, -1);
        check.due("day", x.day(), 1);
        step(x, 0, 0, -1, -1, -1, -1, -1);
    }

    private static void stepByAnother() {
        // q sits at once with it, r may follow q, s is of too low a grade to come
        WhistleRoster x = Check.of(GROUND + "one p 3 at a;one q 3 at a;one r 2 at a;one s 1 at a;"
            + "game k l at a on 1 100 for 60 grade 3;game k l at b on 1 120 for 60 grade 2;game k l at a on 0 120 for 60 grade 3;");
        check.due("puts", x.put(0, 0, 0) + x.put(1, 0, 1) + x.put(2, 0, 1), 0);
        step(x, 0, 0, 2, 1, 1, 0, 2);
        step(x, 1, 0, 1, 2, -1, -1, -1);
        step(x, 2, 0, 1, 0, -1, -1, -1);
        check.due("days", x.day() + x.day(), 1);
        step(x, 0, 0, 2, 1, 1, 0, 2);
        check.due("seats stay", x.seat(0, 0, 0) * 10 + x.seat(1, 0, 0), 1);
        check.due("seats of q", x.one(1, 6), 2);
        check.due("the one itself does not follow", Check.of(GROUND + "one p 3 at a;").steps(0, 0, 0), -1);
    }

    private static void stepByTheFirst() {
        // with most 1 q and r must leave a seat to come; who leaves the first game is not the first by numbers
        WhistleRoster x = Check.of(GROUND + "one p 3 at a;one q 3 at a;one r 3 at a;one s 2 at a;one t 2 at a;most 1;"
            + "game k l at a on 0 100 for 60 grade 3;game k l at a on 0 200 for 60 grade 3 by 3;game k l at a on 0 300 for 60 grade 1 by 3;");
        check.due("puts", x.put(1, 2, 1) + x.put(1, 0, 2) + x.put(0, 0, 0), 0);
        step(x, 0, 0, 2, 1, 1, 2, 3);
        step(x, 1, 0, -1, -1, -1, -1, -1);
        check.due("put", x.put(2, 1, 3), 0);
        step(x, 0, 0, 2, 1, 1, 2, 4);
        check.due("put", x.put(2, 2, 4), 0);
        step(x, 0, 0, -1, -1, -1, -1, -1);
        // two seats that it may leave: a game that is played is none
        x = Check.of(GROUND + "one p 3 at a;one q 3 at a;one r 2 at a;rest 0;"
            + "game k l at a on 0 0 for 60 grade 2;game k l at a on 1 100 for 60 grade 3;game k l at a on 1 100 for 60 grade 2;");
        check.due("puts", x.put(0, 0, 1) + x.put(1, 0, 0) + x.put(2, 0, 1), 0);
        check.due("days", x.day() + x.day(), 1);
        step(x, 1, 0, 2, 1, 2, 0, 2);
    }

    private static void stepByNobody() {
        // q could come from its game, but nobody follows there but the one itself
        WhistleRoster x = Check.of(GROUND + "one p 3 at a;one q 3 at a;"
            + "game k l at a on 1 100 for 60 grade 3;game k l at b on 1 120 for 60 grade 2 by 2;");
        check.due("puts", x.put(0, 0, 0) + x.put(1, 1, 1), 0);
        step(x, 0, 0, -1, -1, -1, -1, -1);
        // its seats lie in the way twice: to leave one is not enough
        x = Check.of(GROUND + "one p 3 at a;one q 3 at a;one r 2 at a;one s 2 at a;rest 0;"
            + "game k l at a on 1 100 for 100 grade 3;game k l at a on 1 80 for 30 grade 2;game k l at a on 1 180 for 30 grade 2;");
        check.due("puts", x.put(0, 0, 0) + x.put(1, 0, 1) + x.put(2, 0, 1), 0);
        step(x, 0, 0, -1, -1, -1, -1, -1);
        check.due("drop", x.drop(1, 0), 1);
        step(x, 0, 0, 2, 1, 2, 0, 2);
    }

    private static void unsoundSeats() {
        WhistleRoster x = Check.of(GROUND + "one p 3 at a;one q 3 at a;"
            + "game k l at a on 0 0 for 60 grade 3 by 2;game k l at a on 0 200 for 60 grade 3 by 2;game k l at a on 3 0 for 60 grade 3 by 2;"
            + "game k l at b on 4 0 for 60 grade 3 by 3;game k l at b on 5 0 for 60 grade 2 by 3;");
        check.due("none", x.unsound(-1), 0);
        check.due("none such", x.unsound(0), -1);
        check.due("puts", x.put(0, 1, 0) + x.put(1, 0, 0) + x.put(2, 1, 0) + x.put(3, 0, 0) + x.put(4, 0, 0) + x.put(3, 2, 1), 0);
        check.due("sound all", x.unsound(-1), 0);
        check.due("days", x.day() + x.day(), 1);
        check.due("marks", x.mark(0, 1, 0) + x.mark(1, 0, 0), 37 + 28);
        check.due("review", x.review(1, 1), 1);
        check.due("grade", x.one(0, 0), 2);
        check.due("unsound", x.unsound(-1), 2);
        check.due("unsound, played", x.unsound(0), 3);
        check.due("unsound", x.unsound(1), 9);
        check.due("none such", x.unsound(2), -1);
        check.due("none such", x.unsound(-2), -1);
        check.due("none such", x.unsound(Integer.MIN_VALUE), -1);
        check.due("none such", x.unsound(Integer.MAX_VALUE), -1);
        check.due("undo", x.undo(), 7);
        check.due("sound again", x.unsound(-1), 0);
        x = Check.of(GROUND + "one p 3 at a;game k l at a on 0 0 for 60 grade 3 by 2;game k l at a on 0 200 for 60 grade 3 by 2;");
        check.due("puts", x.put(0, 0, 0) + x.put(1, 1, 0), 0);
        check.due("days", x.day() + x.day(), 1);
        check.due("marks", x.mark(0, 0, 0) + x.mark(1, 1, 0), 37 + 28);
        check.due("review", x.review(1, 1), 1);
        check.due("unsound", x.unsound(-1), 1);
        check.due("the first of all", x.unsound(0), 0);
    }

    private static void exchange(WhistleRoster x, int... due) {
        for (int what = 0; what < 5; what++) {
            check.due("exchange(" + what + ")", x.exchange(what), due[what]);
        }
        check.due("another what", x.exchange(5), -2);
        check.due("another what", x.exchange(-1), -2);
    }

    private static void bestExchange() {
        WhistleRoster x = Check.of(GROUND + "one p 3 at a;one q 3 at b;one r 3 at c;one s 2 at a;"
            + "game k l at b on 0 0 for 60 grade 2 by 2;game k l at a on 1 0 for 60 grade 2 by 2;game k l at b on 2 0 for 60 grade 2;"
            + "game k l at c on 3 0 for 60 grade 2 by 3;");
        exchange(x, 0, -1, -1, -1, -1);
        check.due("puts", x.put(0, 1, 0) + x.put(1, 0, 1), 0);
        exchange(x, 120, 0, 1, 1, 0);
        check.due("put", x.put(2, 0, 0), 0);
        exchange(x, 120, 0, 1, 1, 0);
        check.due("put", x.put(1, 1, 2), 0);
        exchange(x, 120, 0, 1, 1, 0);
        check.due("put", x.put(3, 2, 0), 0);
        exchange(x, 200, 1, 1, 3, 2);
        check.due("could", x.could(1, 1, 3, 2), 0);
        check.due("acts", x.has(9), 5);
        check.due("swap", x.swap(1, 1, 3, 2), 0);
        check.due("another seat of that game", x.swap(0, 1, 1, 0), -6);
        exchange(x, 0, -1, -1, -1, -1);
        check.due("undo", x.undo(), 5);
        check.due("day", x.day(), 0);
        exchange(x, 200, 1, 1, 3, 2);
        check.due("undo", x.undo(), 5);
        check.due("drop", x.drop(3, 2), 0);
        exchange(x, 120, 0, 1, 1, 0);
        check.due("days", x.day() + x.day(), 1);
        exchange(x, 120, 1, 0, 2, 0);
        check.due("day", x.day(), 2);
        exchange(x, 0, -1, -1, -1, -1);
    }

    private static void noExchange() {
        // it would be shorter, but the grades are unlike
        WhistleRoster x = Check.of(GROUND + "one p 3 at a;one q 4 at b;"
            + "game k l at b on 0 0 for 60 grade 2;game k l at a on 1 0 for 60 grade 2;");
        check.due("puts", x.put(0, 0, 0) + x.put(1, 0, 1), 0);
        exchange(x, 0, -1, -1, -1, -1);
        // the days of both count: the way is longer elsewhere
        x = Check.of(GROUND + "one p 3 at a;one q 3 at a;rest 0;"
            + "game k l at b on 0 0 for 60 grade 2;game k l at b on 0 200 for 60 grade 2;game k l at a on 1 0 for 60 grade 2;");
        check.due("puts", x.put(0, 0, 0) + x.put(1, 0, 0) + x.put(2, 0, 1), 0);
        exchange(x, 0, -1, -1, -1, -1);
        // the last seat of a game and the first of the next one
        x = Check.of(GROUND + "one p 3 at a;one q 3 at b;"
            + "game k l at b on 0 0 for 60 grade 1 by 3;game k l at a on 1 0 for 60 grade 1 by 3;");
        check.due("puts", x.put(0, 2, 0) + x.put(1, 0, 1), 0);
        exchange(x, 120, 0, 2, 1, 0);
        // on one day: p at b between games at a, q at a between games at b
        x = Check.of(GROUND + "one p 3 at a;one q 3 at b;rest 0;"
            + "game k l at a on 0 0 for 60 grade 2;game k l at b on 0 0 for 60 grade 2;"
            + "game k l at b on 0 200 for 60 grade 2;game k l at a on 0 200 for 60 grade 2;");
        check.due("puts", x.put(0, 0, 0) + x.put(1, 0, 1) + x.put(2, 0, 0) + x.put(3, 0, 1), 0);
        exchange(x, 120, 2, 0, 3, 0);
        check.due("drops", x.drop(0, 0) * 10 + x.drop(1, 0), 1);
        exchange(x, 120, 2, 0, 3, 0);
        check.due("played", x.day() + x.day(), 1);
        exchange(x, 0, -1, -1, -1, -1);
    }
}
