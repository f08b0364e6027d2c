/** Terms 2 and 3, a sentence at a time: ways, days, reasons, rounds, fees, forms, draws and acts at their edges. */
public final class TermEdgesTest {
    private static final Check check = new Check("TermEdgesTest");
    private static final String GROUND = "field a;field b;field c;field z;road a b 30;road b c 20;club k;club l;club m;club n;";
    private static final long UNTOLD = Long.MIN_VALUE;

    public static void main(String[] args) {
        ways();
        todayFromOneDayToTheNext();
        minutesOfAGame();
        needs();
        noneSuchAheadOfPlayed();
        playedAheadOfTaken();
        takenAheadOfAnotherSeat();
        anotherSeatAheadOfGrade();
        gradeAheadOfBarred();
        barredAheadOfOff();
        offAheadOfMost();
        mostAheadOfAtOnce();
        atOnceAheadOfTooNear();
        tooNearAheadOfThirdField();
        gradeAndNeed();
        barredByEitherClub();
        offThatDayAlone();
        mostGamesThatDay();
        atOnce();
        wayAndRestBetween();
        noWayFromHome();
        thirdFieldThatDay();
        sound();
        rounds();
        roundsOfLikeBegins();
        extras();
        feesWithinInt();
        feesCutDown();
        feesByNothing();
        feesByWay();
        forms();
        marksSinceReview();
        draws();
        eightActs();
        actsOfEachKind();
        refusedCallsAreNoActs();
        weekForgetsActs();
        weekWithFaultForgetsNothing();
        check.close();
    }

    private static void day(WhistleRoster x, int... due) {
        for (int each : due) {
            check.due("day", x.day(), each);
        }
    }

    private static void puts(WhistleRoster x, int... each) {
        for (int i = 0; i < each.length; i += 3) {
            check.due("put(" + each[i] + ", " + each[i + 1] + ", " + each[i + 2] + ")", x.put(each[i], each[i + 1], each[i + 2]), 0);
        }
    }

    // "WAY: the fewest minutes by roads from one FIELD to another one (0 to itself; none without roads)"
    private static void ways() {
        WhistleRoster x = Check.of("field a;field b;field c;road a b 1;");
        check.due("0 to itself", x.way(0, 0), 0);
        check.due("0 to itself, without roads", x.way(2, 2), 0);
        check.due("a road of 1 minute", x.way(0, 1), 1);
        check.due("either way", x.way(1, 0), 1);
        check.due("none without roads", x.way(0, 2), -1);
        check.due("none without roads", x.way(2, 1), -1);
        check.due("first come to by a road of 1 minute", x.toward(0, 1), 1);
        x = Check.of("field a;field b;field c;field e;field f;field g;road a g 240;road a b 48;road b c 48;road c e 48;road e f 48;road f g 47;");
        check.due("five roads of 239 minutes", x.way(0, 5), 239);
        check.due("the first of them", x.toward(0, 5), 1);
        x = Check.of("field a;field b;field c;field e;field f;field g;road a g 240;road a b 48;road b c 48;road c e 48;road e f 48;road f g 48;");
        check.due("both of 240", x.way(5, 0), 240);
        check.due("the least of the first ones", x.toward(5, 0), 0);
        check.due("the least of the first ones", x.toward(0, 5), 1);
        x = Check.of("field a;field b;field c;field e;field f;field g;road a g 240;road a b 48;road b c 48;road c e 48;road e f 48;road f g 49;");
        check.due("five roads of 241", x.way(0, 5), 240);
        check.due("the straight one", x.toward(0, 5), 5);
    }

    // "TODAY: a DAY, at first -1, up to 7. A GAME is PLAYED, if its DAY is below TODAY; LATE, if it is TODAY."
    private static void todayFromOneDayToTheNext() {
        StringBuilder text = new StringBuilder(GROUND);
        for (int d = 0; d < 7; d++) {
            text.append("game k l at a on ").append(d).append(" 0 for 60 grade 1;");
        }
        WhistleRoster x = Check.of(text.toString());
        for (int today = -1; today <= 7; today++) {
            check.due("TODAY", x.has(6), today);
            for (int d = 0; d < 7; d++) {
                check.due("GAME of DAY " + d + " at TODAY " + today, x.game(d, 8), d < today ? 2 : d == today ? 1 : 0);
            }
            check.due("day", x.day(), today < 7 ? today + 1 : -1);
        }
        check.due("up to 7", x.has(6), 7);
        // with a WEEK told anew it is -1 again
        check.due("week()", x.week(), 0);
        check.due("TODAY", x.has(6), -1);
    }

    // "It ends at the minute by which it lasted": from 1299 for 140, and from 0 for 10
    private static void minutesOfAGame() {
        WhistleRoster x = Check.of(GROUND + "one o 1 at a;rest 0;game k l at a on 0 1299 for 140 grade 1;game k l at a on 0 0 for 10 grade 1;"
            + "game k l at a on 0 10 for 10 grade 1;game k l at a on 0 9 for 10 grade 1;");
        puts(x, 0, 0, 0);
        check.due("home again in 1439", x.trip(0, 0, 1), 1439);
        puts(x, 1, 0, 0);
        check.due("begins as that ends", x.why(2, 0, 0), 0);
        check.due("begins a minute ahead of it", x.why(3, 0, 0), 9);
    }

    // "NEED of a SEAT: of SEAT 0 the GAME's GRADE, of others one less (1 at least)"
    private static void needs() {
        for (int grade = 1; grade <= 5; grade++) {
            WhistleRoster x = Check.of(GROUND + "one o 1 at a;game k l at a on 0 0 for 60 grade " + grade + " by 3;fee need;");
            check.due("SEAT 0 of GRADE " + grade, x.fee(0, 0, 0), grade);
            check.due("SEAT 1 of GRADE " + grade, x.fee(0, 1, 0), Math.max(1, grade - 1));
            check.due("SEAT 2 of GRADE " + grade, x.fee(0, 2, 0), Math.max(1, grade - 1));
        }
    }

    private static WhistleRoster withReasons() {
        return Check.of(GROUND + "one o 2 at a no m;one p 2 at z no m;one q 1 at z no m;one r 5 at a;most 1;rest 10;off q 0;off p 0;off o 1;"
            + "game k l at a on 0 100 for 60 grade 2 by 3;game m l at a on 0 100 for 60 grade 2;game k l at a on 1 100 for 60 grade 2;"
            + "game k l at a on 0 120 for 60 grade 2;");
    }

    private static void noneSuchAheadOfPlayed() {
        WhistleRoster x = withReasons();
        day(x, 0, 1);
        check.due("no such OFFICIAL, PLAYED", x.why(0, 0, 4), 1);
        check.due("no such SEAT, PLAYED", x.why(0, 3, 0), 1);
        check.due("PLAYED", x.why(0, 0, 0), 2);
        check.due("put", x.put(0, 0, 4), -1);
    }

    private static void playedAheadOfTaken() {
        WhistleRoster x = withReasons();
        puts(x, 0, 0, 0);
        day(x, 0);
        check.due("taken, LATE", x.why(0, 0, 3), 3);
        day(x, 1);
        check.due("taken, PLAYED", x.why(0, 0, 3), 2);
        check.due("of its own", x.why(0, 0, 0), 2);
    }

    private static void takenAheadOfAnotherSeat() {
        WhistleRoster x = withReasons();
        puts(x, 0, 0, 0, 0, 1, 3);
        check.due("taken, it has another SEAT", x.why(0, 1, 0), 3);
        check.due("taken by itself", x.why(0, 0, 0), 3);
        check.due("free, it has another SEAT", x.why(0, 2, 0), 4);
        check.due("taken, GRADE below NEED and more", x.why(0, 0, 2), 3);
    }

    private static void anotherSeatAheadOfGrade() {
        WhistleRoster x = Check.of(GROUND + "one o 2 at a;most 1;game k l at a on 0 0 for 60 grade 3 by 3;");
        check.due("GRADE below NEED", x.why(0, 0, 0), 5);
        puts(x, 0, 2, 0);
        check.due("another SEAT of that GAME, GRADE below NEED", x.why(0, 0, 0), 4);
        check.due("another SEAT of that GAME, MOST", x.why(0, 1, 0), 4);
    }

    private static void gradeAheadOfBarred() {
        WhistleRoster x = withReasons();
        check.due("GRADE, BARRED, off, no WAY", x.why(1, 0, 2), 5);
    }

    private static void barredAheadOfOff() {
        WhistleRoster x = withReasons();
        check.due("BARRED, off, no WAY", x.why(1, 0, 1), 6);
        check.due("off, no WAY", x.why(0, 0, 1), 7);
    }

    private static void offAheadOfMost() {
        // who is off has no GAMES that DAY, so that 8 and 9 can't be so with 7: 10 can
        WhistleRoster x = withReasons();
        check.due("off, no WAY", x.why(0, 0, 1), 7);
        check.due("not off, no WAY", x.why(2, 0, 1), 10);
        check.due("off", x.why(2, 0, 0), 7);
    }

    private static void mostAheadOfAtOnce() {
        WhistleRoster x = withReasons();
        puts(x, 0, 0, 3);
        check.due("MOST, at once", x.why(3, 0, 3), 8);
        check.due("MOST, at once", x.why(1, 0, 3), 8);
        x = Check.of(GROUND + "one o 2 at a;most 2;game k l at a on 0 0 for 60 grade 1;game k l at z on 0 0 for 60 grade 1;game k l at a on 0 500 for 60 grade 1;");
        puts(x, 0, 0, 0, 2, 0, 0);
        check.due("MOST, at once, no WAY", x.why(1, 0, 0), 8);
    }

    private static void atOnceAheadOfTooNear() {
        WhistleRoster x = Check.of(GROUND + "one o 2 at a;game k l at a on 0 0 for 60 grade 1;game k l at z on 0 59 for 60 grade 1;"
            + "game k l at z on 0 60 for 60 grade 1;game k l at b on 0 59 for 60 grade 1;");
        puts(x, 0, 0, 0);
        check.due("at once, no WAY", x.why(1, 0, 0), 9);
        check.due("no WAY", x.why(2, 0, 0), 10);
        check.due("at once, too near", x.why(3, 0, 0), 9);
        // at once with one, too near to another one that it has as well
        x = Check.of(GROUND + "one o 2 at a;rest 0;game k l at a on 0 0 for 60 grade 1;game k l at a on 0 160 for 60 grade 1;game k l at b on 0 80 for 81 grade 1;");
        puts(x, 0, 0, 0, 1, 0, 0);
        check.due("too near to the first, at once with the second", x.why(2, 0, 0), 9);
    }

    private static void tooNearAheadOfThirdField() {
        String games = "game k l at a on 0 0 for 60 grade 1;game k l at b on 0 200 for 60 grade 1;game k l at c on 0 %d for 60 grade 1;";
        WhistleRoster x = Check.of(GROUND + "one o 2 at a;" + String.format(games, 289));
        puts(x, 0, 0, 0, 1, 0, 0);
        check.due("too near, a third FIELD", x.why(2, 0, 0), 10);
        x = Check.of(GROUND + "one o 2 at a;" + String.format(games, 290));
        puts(x, 0, 0, 0, 1, 0, 0);
        check.due("a third FIELD", x.why(2, 0, 0), 11);
    }

    // "5 its GRADE is below NEED"
    private static void gradeAndNeed() {
        for (int grade = 1; grade <= 5; grade++) {
            for (int need = 1; need <= 5; need++) {
                WhistleRoster x = Check.of(GROUND + "one o " + grade + " at a;game k l at a on 0 0 for 60 grade " + need + " by 3;");
                check.due("GRADE " + grade + " in SEAT 0 of " + need, x.why(0, 0, 0), grade < need ? 5 : 0);
                check.due("GRADE " + grade + " in SEAT 1 of " + need, x.why(0, 1, 0), grade < need - 1 ? 5 : 0);
                check.due("GRADE " + grade + " in SEAT 2 of " + need, x.why(0, 2, 0), grade < need - 1 ? 5 : 0);
            }
        }
    }

    // "6 a CLUB of the GAME is BARRED to it"
    private static void barredByEitherClub() {
        WhistleRoster x = Check.of("field a;club k;club l;club m;club n;club q;club r;club s;club t;one o 1 at a no t;one p 1 at a no k no m;"
            + "game k t at a on 0 0 for 60 grade 1;game t k at a on 0 0 for 60 grade 1;game k l at a on 0 0 for 60 grade 1;game n l at a on 0 0 for 60 grade 1;");
        int[][] due = {{6, 6}, {6, 6}, {0, 6}, {0, 0}};
        for (int g = 0; g < 4; g++) {
            check.due("BARRED the last CLUB, GAME " + g, x.why(g, 0, 0), due[g][0]);
            check.due("BARRED two CLUBS, GAME " + g, x.why(g, 0, 1), due[g][1]);
        }
    }

    // "7 it is off that DAY"
    private static void offThatDayAlone() {
        StringBuilder text = new StringBuilder(GROUND).append("one o 1 at a;off o 0;off o 2 to 3;off o 6;");
        for (int d = 0; d < 7; d++) {
            text.append("game k l at a on ").append(d).append(" 0 for 60 grade 1;");
        }
        WhistleRoster x = Check.of(text.toString());
        int[] due = {7, 0, 7, 7, 0, 0, 7};
        for (int d = 0; d < 7; d++) {
            check.due("off on DAY " + d, x.why(d, 0, 0), due[d]);
        }
    }

    // "8 it has MOST GAMES that DAY"
    private static void mostGamesThatDay() {
        for (int most = 1; most <= 4; most++) {
            StringBuilder text = new StringBuilder(GROUND).append("one o 1 at a;one p 1 at a;most ").append(most).append(';');
            for (int g = 0; g < 5; g++) {
                text.append("game k l at a on 3 ").append(200 * g).append(" for 60 grade 1 by 2;");
            }
            WhistleRoster x = Check.of(text + "game k l at a on 4 0 for 60 grade 1;");
            for (int g = 0; g < 5; g++) {
                check.due("MOST " + most + ", with " + g, x.put(g, 0, 0), g < most ? 0 : -8);
            }
            check.due("another DAY", x.why(5, 0, 0), 0);
            check.due("another OFFICIAL", x.why(4, 0, 1), 0);
            check.due("drop", x.drop(0, 0), 0);
            check.due("one less", x.why(4, 0, 0), 0);
        }
        WhistleRoster x = Check.of(GROUND + "one o 1 at a;game k l at a on 3 0 for 60 grade 1;game k l at a on 3 200 for 60 grade 1;"
            + "game k l at a on 3 400 for 60 grade 1;game k l at a on 3 600 for 60 grade 1;");
        puts(x, 0, 0, 0, 1, 0, 0, 2, 0, 0);
        check.due("3 without", x.why(3, 0, 0), 8);
    }

    // "9 another GAME of its that DAY is at once with it (each begins ahead of the other's end)"
    private static void atOnce() {
        int[][] others = {{100, 60, 9}, {100, 10, 9}, {159, 10, 9}, {160, 10, 0}, {90, 10, 0}, {90, 11, 9}, {50, 140, 9}, {110, 20, 9},
            {161, 10, 0}, {80, 10, 0}, {0, 101, 9}, {0, 100, 0}};
        for (int[] other : others) {
            WhistleRoster x = Check.of(GROUND + "one o 1 at a;rest 0;game k l at a on 3 100 for 60 grade 1;game k l at a on 3 " + other[0]
                + " for " + other[1] + " grade 1;game k l at a on 4 " + other[0] + " for " + other[1] + " grade 1;");
            puts(x, 0, 0, 0);
            check.due("from " + other[0] + " for " + other[1], x.why(1, 0, 0), other[2]);
            check.due("another DAY", x.why(2, 0, 0), 0);
            check.due("drop", x.drop(0, 0), 0);
            puts(x, 1, 0, 0);
            check.due("the other ahead", x.why(0, 0, 0), other[2]);
        }
    }

    // "fewer minutes (from the end of one to the begin of the other) than WAY between their FIELDS and REST"
    private static void wayAndRestBetween() {
        for (int rest : new int[] {0, 1, 120}) {
            for (int way : new int[] {0, 20}) {
                String field = way == 0 ? "b" : "c";
                int fits = 160 + way + rest;
                WhistleRoster x = Check.of(GROUND + "one o 1 at a;rest " + rest + ";game k l at b on 3 100 for 60 grade 1;"
                    + "game k l at " + field + " on 3 " + fits + " for 60 grade 1;game k l at " + field + " on 3 " + (fits - 1) + " for 60 grade 1;");
                puts(x, 0, 0, 0);
                check.due("as many as WAY " + way + " and REST " + rest, x.why(1, 0, 0), 0);
                check.due("one less", x.why(2, 0, 0), fits - 1 < 160 ? 9 : 10);
                check.due("drop", x.drop(0, 0), 0);
                puts(x, 1, 0, 0);
                check.due("the other ahead", x.why(0, 0, 0), 0);
                check.due("drop", x.drop(1, 0), 0);
                puts(x, 2, 0, 0);
                check.due("the other ahead, one less", x.why(0, 0, 0), fits - 1 < 160 ? 9 : 10);
            }
        }
        // to the one ahead it fits, to the one behind it doesn't, and the other way round
        WhistleRoster x = Check.of(GROUND + "one o 1 at b;game k l at b on 0 0 for 60 grade 1;game k l at b on 0 200 for 60 grade 1;"
            + "game k l at c on 0 90 for 80 grade 1;game k l at c on 0 90 for 81 grade 1;game k l at c on 0 89 for 81 grade 1;");
        puts(x, 0, 0, 0, 1, 0, 0);
        check.due("fits between", x.why(2, 0, 0), 0);
        check.due("too near to the one behind", x.why(3, 0, 0), 10);
        check.due("too near to the one ahead", x.why(4, 0, 0), 10);
    }

    // "10 there is no WAY from HOME to the FIELD"
    private static void noWayFromHome() {
        WhistleRoster x = Check.of(GROUND + "one o 1 at a;one p 1 at z;game k l at z on 0 0 for 60 grade 1;game k l at c on 0 0 for 60 grade 1;");
        check.due("no WAY", x.why(0, 0, 0), 10);
        check.due("no WAY", x.why(1, 0, 1), 10);
        check.due("HOME itself, without roads", x.why(0, 0, 1), 0);
        check.due("by two roads", x.why(1, 0, 0), 0);
    }

    // "11 it would be on a third FIELD that DAY"
    private static void thirdFieldThatDay() {
        WhistleRoster x = Check.of(GROUND + "one o 1 at z;one p 1 at a;road c z 1;rest 0;most 4;game k l at a on 0 0 for 10 grade 1;game k l at b on 0 200 for 10 grade 1;"
            + "game k l at c on 0 400 for 10 grade 1;game k l at a on 0 600 for 10 grade 1;game k l at b on 0 800 for 10 grade 1;game k l at c on 1 0 for 10 grade 1;");
        puts(x, 0, 0, 0);
        check.due("a second FIELD", x.why(1, 0, 0), 0);
        check.due("a second FIELD", x.why(2, 0, 0), 0);
        puts(x, 1, 0, 0);
        check.due("a third FIELD", x.why(2, 0, 0), 11);
        check.due("a FIELD again", x.why(3, 0, 0), 0);
        puts(x, 4, 0, 0);
        check.due("a third FIELD", x.why(2, 0, 0), 11);
        check.due("another DAY", x.why(5, 0, 0), 0);
        check.due("another OFFICIAL", x.why(2, 0, 1), 0);
    }

    // "A SEAT that is taken is SOUND, if the one who has it might take it anew, were it free (2 left out)"
    private static void sound() {
        WhistleRoster x = Check.of(GROUND + "one o 3 at a;most 2;game k l at a on 0 0 for 60 grade 3 by 2;game k l at a on 0 200 for 60 grade 3 by 2;"
            + "game k l at b on 1 0 for 60 grade 2;game k l at b on 1 200 for 60 grade 3;");
        puts(x, 0, 0, 0, 1, 1, 0, 2, 0, 0, 3, 0, 0);
        check.due("all SOUND: taken, another SEAT, MOST are its own", x.unsound(-1), 0);
        day(x, 0);
        check.due("LATE is no matter", x.unsound(-1), 0);
        day(x, 1);
        check.due("PLAYED is left out", x.unsound(-1), 0);
        check.due("marks", x.mark(0, 0, 0) + x.mark(1, 1, 0), 37 + 28);
        check.due("review", x.review(0, 9), 1);
        check.due("SEATS of NEED 3", x.unsound(-1), 2);
        check.due("one that is PLAYED", x.unsound(0), 0);
        check.due("one that is LATE", x.unsound(1), 9);
        check.due("no more", x.unsound(2), -1);
    }

    // "minutes from HOME to its GAMES of that DAY (each once), one by one as they begin, and HOME (0 without GAMES)"
    private static void rounds() {
        WhistleRoster x = Check.of(GROUND + "one o 3 at a;rest 0;game k l at c on 2 500 for 60 grade 1 by 2;game k l at b on 2 0 for 60 grade 1;game k l at c on 3 500 for 60 grade 1;");
        check.due("without GAMES", x.round(0, 2), 0);
        puts(x, 0, 0, 0);
        check.due("one GAME", x.round(0, 2), 100);
        puts(x, 1, 0, 0);
        check.due("b, c", x.round(0, 2), 30 + 20 + 50);
        check.due("another DAY", x.round(0, 3), 0);
        puts(x, 2, 0, 0);
        check.due("each DAY its own", x.round(0, 2), 100);
        check.due("each DAY its own", x.round(0, 3), 100);
        // each GAME once, and WAYS that there aren't
        x = Check.of(GROUND + "one o 3 at a;rest 0;game k l at b on 2 500 for 60 grade 1 by 2;game k l at z on 2 700 for 60 grade 1;game k l at z on 2 0 for 60 grade 1;");
        puts(x, 0, 0, 0);
        check.due("a second SEAT of a GAME", x.extra(0, 1, 0), 0);
        check.due("b, z, HOME", x.extra(1, 0, 0), 30 + 999 + 999 - 60);
        check.due("z, b, HOME", x.extra(2, 0, 0), 999 + 999 + 30 - 60);
        // a WAY that is longer than 999 is none of these
        x = Check.of("field a;field b;field c;field e;field f;field g;road a b 240;road b c 240;road c e 240;road e f 240;road f g 240;club k;club l;"
            + "one o 1 at a;game k l at g on 0 0 for 60 grade 1;");
        check.due("there and back", x.extra(0, 0, 0), 2400);
    }

    // "(of like begins by numbers)"
    private static void roundsOfLikeBegins() {
        WhistleRoster x = Check.of(GROUND + "one o 1 at a;game k l at b on 0 0 for 60 grade 1;game k l at a on 0 200 for 60 grade 1;"
            + "game k l at c on 0 200 for 60 grade 1;game k l at b on 0 200 for 60 grade 1;");
        puts(x, 0, 0, 0, 3, 0, 0);
        check.due("b, b", x.round(0, 0), 60);
        check.due("b, a, b", x.extra(1, 0, 0), 60);
        check.due("b, c, b", x.extra(2, 0, 0), 40);
        check.due("drop", x.drop(3, 0), 0);
        puts(x, 1, 0, 0);
        check.due("b, a, c", x.extra(2, 0, 0), 30 + 30 + 50 + 50 - 60);
        check.due("b, a, b", x.extra(3, 0, 0), 30 + 30 + 30 + 30 - 60);
    }

    // "EXTRA of an OFFICIAL for a SEAT: by how much its ROUND would be longer"
    private static void extras() {
        WhistleRoster x = Check.of(GROUND + "one o 1 at a;one p 1 at c;game k l at b on 0 0 for 60 grade 5 by 2;game k l at a on 0 200 for 60 grade 1;game k l at c on 0 400 for 60 grade 1;");
        check.due("first GAME of the DAY", x.extra(0, 0, 0), 60);
        check.due("at HOME", x.extra(1, 0, 0), 0);
        puts(x, 2, 0, 1);
        check.due("of a SEAT that another one has", x.extra(2, 0, 0), 100);
        check.due("of its own", x.extra(2, 0, 1), 0);
        check.due("there and back ahead of it", x.extra(0, 0, 1), 40);
        check.due("further", x.extra(1, 0, 1), 100);
    }

    private static long fee(String law) {
        return Check.of(GROUND + "one o 2 at a;game k l at b on 3 1000 for 90 grade 4 by 3;game k l at z on 0 0 for 10 grade 1;fee " + law + ";").fee(0, 2, 0);
    }

    // "all in whole numbers from -2147483648 to 2147483647"; "UNTOLD, if a number on the way would be beyond these"
    private static void feesWithinInt() {
        String half = "4096*4096*64";
        check.due("2147483647", fee(half + "-1+" + half), 2147483647L);
        check.due("2147483648", fee(half + "+" + half), UNTOLD);
        check.due("2147483648, one less then", fee(half + "+" + half + "-1"), UNTOLD);
        check.due("2147483648 by *", fee(half + "*2"), UNTOLD);
        check.due("-2147483648", fee("0-" + half + "-" + half), -2147483648L);
        check.due("-2147483648 by *", fee("(0-2)*(" + half + ")"), -2147483648L);
        check.due("-2147483649", fee("0-" + half + "-" + half + "-1"), UNTOLD);
        check.due("-2147483649, one more then", fee("0-" + half + "-" + half + "-1+1"), UNTOLD);
        check.due("-2147483648 by -1", fee("(0-" + half + "-" + half + ")/(0-1)"), UNTOLD);
        check.due("-2147483647 by -1", fee("(1-" + half + "-" + half + ")/(0-1)"), 2147483647L);
        check.due("2147483647 by -1", fee("(" + half + "-1+" + half + ")/(0-1)"), -2147483647L);
        check.due("in brackets beyond, times 0", fee("0*(" + half + "*2)"), UNTOLD);
        check.due("beyond 64 bits", fee("(" + half + ")*(" + half + ")*(" + half + ")"), UNTOLD);
        check.due("beyond, wrapped to 0", fee("65536*65536".replace("65536", "(256*256)")), UNTOLD);
        check.due("without a law", Check.of(GROUND + "one o 2 at a;game k l at z on 0 0 for 10 grade 1;").fee(0, 0, 0), 0);
    }

    // "/ cuts down to the whole number not above"
    private static void feesCutDown() {
        int[][] due = {{7, 2, 3}, {-7, 2, -4}, {7, -2, -4}, {-7, -2, 3}, {6, 2, 3}, {-6, 2, -3}, {6, -2, -3}, {1, 9999, 0}, {-1, 9999, -1}, {0, -5, 0}, {-1, -9999, 0}};
        for (int[] each : due) {
            String left = each[0] < 0 ? "(0-" + -each[0] + ")" : "" + each[0];
            String right = each[1] < 0 ? "(0-" + -each[1] + ")" : "" + each[1];
            check.due(left + "/" + right, fee(left + "/" + right), each[2]);
        }
    }

    // "by 0"
    private static void feesByNothing() {
        check.due("1 by 0", fee("1/0"), UNTOLD);
        check.due("0 by 0", fee("0/0"), UNTOLD);
        check.due("by what comes to 0", fee("lasts/(need-3)"), UNTOLD);
        check.due("with more behind it", fee("0*(5/0)+3"), UNTOLD);
        check.due("0 by 1", fee("0/1"), 0);
    }

    // "or there is no way from HOME (asked by "way")"
    private static void feesByWay() {
        String ones = "one o 2 at a;one p 2 at z;game k l at z on 0 0 for 10 grade 1;";
        WhistleRoster x = Check.of(GROUND + ones + "fee 5+0*way;");
        check.due("no way", x.fee(0, 0, 0), UNTOLD);
        check.due("HOME itself", x.fee(0, 0, 1), 5);
        x = Check.of(GROUND + ones + "fee 5;");
        check.due("not asked", x.fee(0, 0, 0), 5);
        check.due("to the FIELD, one way", fee("way"), 30);
    }

    // "FORM: at first 50. By a MARK m: FORM times 0.75f, m times 0.25f, and both together, each as a float"
    private static void forms() {
        WhistleRoster x = Check.of(GROUND + "one o 1 at a;rest 0;game k l at a on 0 0 for 10 grade 1;game k l at a on 0 100 for 10 grade 1;game k l at a on 0 200 for 10 grade 1;");
        check.due("at first", x.formBits(0), 0x42480000);
        puts(x, 0, 0, 0, 1, 0, 0, 2, 0, 0);
        day(x, 0, 1);
        float form = 50f;
        for (int g = 0; g < 3; g++) {
            int m = g == 0 ? 99 : g == 1 ? 33 : 1;
            float old = form * 0.75f;
            float fresh = m * 0.25f;
            form = old + fresh;
            check.due("FORM cut", x.mark(g, 0, m), (int) form);
            check.due("FORM", x.formBits(0), Float.floatToIntBits(form));
        }
        for (int m = 0; m <= 100; m++) {
            check.due("undo", x.undo() >= 0, true);
            check.due("mark " + m, x.mark(2, 0, m), (int) (((50f * 0.75f + 99 * 0.25f) * 0.75f + 33 * 0.25f) * 0.75f + m * 0.25f));
        }
    }

    // "MARKS of an OFFICIAL: how many since the latest review"
    private static void marksSinceReview() {
        WhistleRoster x = Check.of(GROUND + "one o 1 at a;one p 1 at a;rest 0;game k l at a on 0 0 for 10 grade 1 by 2;game k l at a on 0 100 for 10 grade 1;game k l at a on 1 200 for 10 grade 1;");
        puts(x, 0, 0, 0, 0, 1, 1, 1, 0, 0, 2, 0, 0);
        day(x, 0, 1);
        check.due("none", x.one(0, 4), 0);
        check.due("mark", x.mark(0, 0, 50) + x.mark(1, 0, 50), 100);
        check.due("two", x.one(0, 4), 2);
        check.due("of another one", x.one(1, 4), 0);
        check.due("review", x.review(0, 0), 0);
        check.due("none since", x.one(0, 4), 0);
        check.due("the MARK itself stays", x.seat(0, 0, 1), 50);
        check.due("play", x.play(0), 1);
        check.due("one since", x.one(0, 4), 1);
        check.due("week()", again(x, GROUND + "one o 1 at a;"), 0);
        check.due("none in another WEEK", x.one(0, 4), 0);
        check.due("FORM in another WEEK", x.one(0, 5), 50);
    }

    private static int again(WhistleRoster x, String text) {
        Check.feed(x, text);
        return x.week();
    }

    // "A DRAW: z becomes 1103515245 times z and 12345 (as int); (z by 65536 without its sign), modulo 101"
    private static void draws() {
        // 1103515245 * 0 + 12345 = 12345: 0; 1103515245 + 12345 = 1103527590: 16838 = 101 * 166 + 72
        int[][] due = {{0, 0}, {1, 72}};
        for (int[] each : due) {
            WhistleRoster x = Check.of(GROUND + "one o 1 at a;game k l at a on 0 0 for 10 grade 1;");
            puts(x, 0, 0, 0);
            day(x, 0);
            check.due("play", x.play(each[0]), 1);
            check.due("DRAW of seed " + each[0], x.seat(0, 0, 1), each[1]);
        }
        // 1103515245 * 2 + 12345 = 2207042835, as int below 0: 2207042835 / 65536 = 33676 = 101 * 333 + 43
        WhistleRoster x = Check.of(GROUND + "one o 1 at a;game k l at a on 0 0 for 10 grade 1;");
        puts(x, 0, 0, 0);
        day(x, 0);
        check.due("play", x.play(2), 1);
        check.due("DRAW of a z below 0", x.seat(0, 0, 1), 43);
    }

    // "ACTS that can be undone (the latest 8)"
    private static void eightActs() {
        WhistleRoster x = Check.of(GROUND + "one o 1 at a;game k l at a on 6 0 for 10 grade 1;");
        for (int i = 1; i <= 11; i++) {
            check.due("act", i % 2 == 1 ? x.put(0, 0, 0) : x.drop(0, 0), 0);
            check.due("ACTS", x.has(9), Math.min(i, 8));
        }
        for (int i = 7; i >= 0; i--) {
            check.due("undo", x.undo(), i);
            check.due("ACTS", x.has(9), i);
            check.due("taken", x.has(8), i % 2 == 1 ? 0 : 1);
        }
        check.due("the 9th is forgotten", x.undo(), -1);
        check.due("what it did stays", x.has(8), 1);
        for (int i = 1; i <= 9; i++) {
            check.due("act", i % 2 == 1 ? x.drop(0, 0) : x.put(0, 0, 0), 0);
        }
        check.due("8 again", x.has(9), 8);
        check.due("undo", x.undo(), 7);
        check.due("an act after it", x.drop(0, 0), 0);
        check.due("ACTS", x.has(9), 8);
        check.due("and one more", x.put(0, 0, 0), 0);
        check.due("ACTS", x.has(9), 8);
    }

    // "put, drop, swap, fill, day, play, mark, review that weren't refused"
    private static void actsOfEachKind() {
        WhistleRoster x = Check.of(GROUND + "one o 1 at a;one p 1 at a;game k l at a on 0 0 for 10 grade 1;game k l at a on 1 0 for 10 grade 1;game k l at a on 2 0 for 10 grade 1;");
        puts(x, 0, 0, 0, 1, 0, 1);
        check.due("put", x.has(9), 2);
        check.due("swap", x.swap(0, 0, 1, 0) + x.has(9), 3);
        check.due("drop", x.drop(1, 0) * 10 + x.has(9), 4);
        check.due("fill", x.fill() * 10 + x.has(9), 25);
        check.due("play", x.play(1) * 10 + x.has(9), 6);
        check.due("day", x.day() * 10 + x.has(9), 17);
        check.due("mark", x.mark(0, 0, 50) * 10 + x.has(9), 508);
        for (int i = 7; i >= 5; i--) {
            check.due("undo", x.undo(), i);
        }
        check.due("review of nothing", x.review(0, 0) * 10 + x.has(9), 6);
        x.could(0, 0, 1, 0);
        x.best(0, 0);
        x.crew(2, 0);
        x.steps(0, 0, 0);
        x.exchange(0);
        x.rank(0);
        check.due("calls that only ask are none", x.has(9), 6);
        // a fill of one SEAT is one as well
        x = Check.of(GROUND + "one o 1 at a;game k l at a on 0 0 for 10 grade 1;");
        check.due("fill", x.fill(), 1);
        check.due("one ACT", x.has(9), 1);
        check.due("undo", x.undo(), 0);
        check.due("free", x.seat(0, 0, 0), -1);
    }

    private static void refusedCallsAreNoActs() {
        WhistleRoster x = Check.of(GROUND + "one o 1 at a;one p 1 at a;game k l at a on 0 0 for 10 grade 1;game k l at a on 1 0 for 10 grade 1;game k l at a on 2 0 for 10 grade 2;");
        check.due("put", x.put(2, 0, 0), -5);
        check.due("drop", x.drop(0, 0), -2);
        check.due("swap", x.swap(0, 0, 1, 0), -3);
        check.due("fill", x.fill(), -1);
        check.due("mark", x.mark(0, 0, 5), -1);
        check.due("review", x.review(-1, 0), -1);
        check.due("undo", x.undo(), -1);
        check.due("ACTS", x.has(9), 0);
        for (int d = 0; d <= 7; d++) {
            check.due("day", x.day(), d);
        }
        for (int i = 0; i < 7; i++) {
            x.undo();
        }
        check.due("ACTS", x.has(9), 1);
        for (int d = 1; d <= 7; d++) {
            check.due("day", x.day(), d);
        }
        check.due("day at 7", x.day(), -1);
        check.due("play at 7", x.play(1), -1);
        check.due("fill of nothing", x.fill(), 0);
        check.due("ACTS", x.has(9), 8);
        check.due("undo", x.undo(), 7);
        check.due("of the last day", x.has(6), 6);
    }

    // "week() without a FAULT forgets them; SHELVES stay"
    private static void weekForgetsActs() {
        WhistleRoster x = Check.of(GROUND + "one o 1 at a;game k l at a on 0 0 for 10 grade 1;");
        check.due("shelf", x.shelf(1, 1, 1), 1);
        check.due("lay", x.lay(1, 0, 0, true), true);
        puts(x, 0, 0, 0);
        day(x, 0);
        check.due("week()", again(x, GROUND + "one p 1 at a;game k l at a on 0 0 for 10 grade 1;"), 1);
        check.due("ACTS", x.has(9), 0);
        check.due("undo", x.undo(), -1);
        check.due("nobody", x.seat(0, 0, 0), -1);
        check.due("SEATS taken", x.has(8), 0);
        check.due("SEATS it has", x.one(0, 6), 0);
        check.due("TODAY", x.has(6), -1);
        check.due("SHELVES stay", x.look(1, 0), 15);
        puts(x, 0, 0, 0);
        check.due("undo", x.undo(), 0);
        check.due("undo", x.undo(), -1);
    }

    private static void weekWithFaultForgetsNothing() {
        WhistleRoster x = Check.of(GROUND + "one o 1 at a;game k l at a on 0 0 for 10 grade 1;");
        puts(x, 0, 0, 0);
        check.due("week()", again(x, GROUND + "one p 1 at a;game k l at a on 0 0 for 10 grade 6;"), -1);
        check.due("ACTS", x.has(9), 1);
        check.due("who has it", x.seat(0, 0, 0), 0);
        check.due("the NAME", x.letter(2, 0, 0), 14);
        check.due("undo", x.undo(), 0);
        check.due("who has it", x.seat(0, 0, 0), -1);
    }
}
