/** Promises 15 to 24: why an official may not take a seat, seats taken, freed and exchanged, extra minutes and fees. */
public final class SeatsTest {
    private static final Check check = new Check("SeatsTest");
    private static final String GROUND = "field a;field b;field c;field z;road a b 30;road b c 20;club k;club l;club m;club n;";
    private static final long UNTOLD = Long.MIN_VALUE;

    public static void main(String[] args) {
        reasonsOfOneGame();
        reasonsOfADay();
        reasonsOfFields();
        firstReasonCounts();
        takenPlayedAndLate();
        dropped();
        exchanged();
        exchangeRefused();
        exchangeLate();
        ableAndBest();
        bestByFee();
        extras();
        laws();
        lawsUntold();
        feesTogether();
        check.close();
    }

    private static void whys(WhistleRoster x, int game, int seat, int... due) {
        int able = 0;
        for (int o = 0; o < due.length; o++) {
            check.due("why(" + game + ", " + seat + ", " + o + ")", x.why(game, seat, o), due[o]);
            able |= due[o] == 0 ? 1 << o : 0;
        }
        check.due("able(" + game + ", " + seat + ")", x.able(game, seat), able);
    }

    private static void reasonsOfOneGame() {
        WhistleRoster x = Check.of(GROUND + "one p 3 at a no m;one r 2 at b no n no k;one s 1 at c;one t 5 at z;off s 1 to 2;"
            + "game k l at a on 0 100 for 60 grade 3 by 3;game m l at a on 1 100 for 60 grade 1 by 2;"
            + "game l m at b on 3 100 for 60 grade 2 by 2;");
        whys(x, 0, 0, 0, 5, 5, 10);
        whys(x, 0, 1, 0, 6, 5, 10);
        whys(x, 0, 2, 0, 6, 5, 10);
        whys(x, 1, 0, 6, 0, 7, 10);
        whys(x, 1, 1, 6, 0, 7, 10);
        whys(x, 2, 0, 6, 0, 5, 10);
        whys(x, 2, 1, 6, 0, 0, 10);
        int[][] none = {{-1, 0, 0}, {3, 0, 0}, {0, -1, 0}, {0, 3, 0}, {1, 2, 0}, {0, 0, -1}, {0, 0, 4},
            {Integer.MIN_VALUE, 0, 0}, {0, Integer.MAX_VALUE, 0}, {0, 0, Integer.MIN_VALUE}};
        for (int[] a : none) {
            check.due("why of none such", x.why(a[0], a[1], a[2]), 1);
            check.due("put of none such", x.put(a[0], a[1], a[2]), -1);
            check.due("extra of none such", x.extra(a[0], a[1], a[2]), -1);
            check.due("fee of none such", x.fee(a[0], a[1], a[2]), UNTOLD);
        }
        for (int i = 0; i < 4; i++) {
            check.due("drop of none such", x.drop(none[i][0], none[i][1]), -2);
            check.due("able of none such", x.able(none[i][0], none[i][1]), -1);
            check.due("best of none such", x.best(none[i][0], none[i][1]), -1);
        }
        check.due("nothing was done", x.has(9), 0);
    }

    private static void reasonsOfADay() {
        WhistleRoster x = Check.of(GROUND + "one p 3 at a;one r 3 at a;most 2;rest 10;"
            + "game k l at a on 0 100 for 100 grade 1 by 2;game k l at a on 0 199 for 10 grade 1;"
            + "game k l at a on 0 200 for 10 grade 1;game k l at a on 0 210 for 10 grade 1;"
            + "game k l at b on 0 240 for 10 grade 1;game k l at b on 0 239 for 10 grade 1;"
            + "game k l at a on 0 90 for 11 grade 1;game k l at a on 0 90 for 10 grade 1;game k l at a on 0 80 for 10 grade 1;"
            + "game k l at a on 1 100 for 100 grade 1;game k l at b on 0 49 for 11 grade 1;game k l at b on 0 50 for 11 grade 1;");
        check.due("put", x.put(0, 0, 0), 0);
        check.due("another seat of the game", x.why(0, 1, 0), 4);
        int[] due = {3, 9, 10, 0, 0, 10, 9, 10, 0, 0, 0, 10};
        for (int g = 0; g < due.length; g++) {
            check.due("why of game " + g, x.why(g, 0, 0), due[g]);
            check.due("why of another one in game " + g, x.why(g, 0, 1), g == 0 ? 3 : 0);
        }
        check.due("put", x.put(8, 0, 0), 0);
        for (int g = 1; g < due.length; g++) {
            check.due("why with 2 games, of game " + g, x.why(g, 0, 0), g == 8 ? 3 : g == 9 ? 0 : 8);
        }
        check.due("another seat comes ahead of most", x.why(0, 1, 0), 4);
    }

    private static void reasonsOfFields() {
        WhistleRoster x = Check.of(GROUND + "one p 3 at a;most 4;rest 0;"
            + "game k l at a on 0 0 for 10 grade 1;game k l at b on 0 300 for 10 grade 1;game k l at c on 0 600 for 10 grade 1;"
            + "game k l at a on 0 900 for 10 grade 1;game k l at c on 1 600 for 10 grade 1;game k l at c on 0 329 for 10 grade 1;");
        check.due("put", x.put(0, 0, 0), 0);
        check.due("put", x.put(1, 0, 0), 0);
        check.due("a third field", x.why(2, 0, 0), 11);
        check.due("put", x.put(2, 0, 0), -11);
        check.due("too near comes ahead of it", x.why(5, 0, 0), 10);
        check.due("a field again", x.why(3, 0, 0), 0);
        check.due("another day", x.why(4, 0, 0), 0);
        check.due("drop", x.drop(0, 0), 0);
        check.due("two fields", x.put(2, 0, 0), 0);
        check.due("home is no field of the day", x.round(0, 0), 30 + 20 + 50);
        check.due("a third field", x.why(3, 0, 0), 11);
    }

    /** Of several reasons the first: each official has one reason less than the one ahead of it. */
    private static void firstReasonCounts() {
        WhistleRoster x = Check.of(GROUND + "one p 1 at z no k;one q 2 at z no k;one r 2 at z;one s 2 at a;one t 2 at z;"
            + "off p 0;off q 0;off r 0;most 1;rest 5;"
            + "game m n at a on 0 100 for 50 grade 2;game k n at a on 0 100 for 50 grade 2;game m l at a on 0 155 for 50 grade 2;");
        check.due("put", x.put(0, 0, 3), 0);
        whys(x, 1, 0, 5, 6, 7, 8, 10);
        whys(x, 0, 0, 3, 3, 3, 3, 3);
        check.due("day", x.day(), 0);
        check.due("late", x.put(1, 0, 3), -12);
        check.due("late, taken", x.put(0, 0, 3), -12);
        check.due("late, none such", x.put(0, 0, 5), -1);
        check.due("late is no reason of its own", x.why(1, 0, 3), 8);
        check.due("day", x.day(), 1);
        whys(x, 0, 0, 2, 2, 2, 2, 2);
        check.due("played", x.put(0, 0, 3), -2);
        check.due("played", x.put(1, 0, 3), -2);
        check.due("played, none such", x.put(3, 0, 3), -1);
    }

    private static void takenPlayedAndLate() {
        WhistleRoster x = Check.of(GROUND + "one p 3 at a;one r 3 at b;game k l at a on 1 100 for 60 grade 3 by 2;");
        check.due("put", x.put(0, 1, 1), 0);
        check.due("seat", x.seat(0, 1, 0), 1);
        check.due("taken", x.put(0, 1, 0), -3);
        check.due("taken", x.put(0, 1, 1), -3);
        check.due("another seat", x.put(0, 0, 1), -4);
        check.due("has(8)", x.has(8), 1);
        check.due("acts", x.has(9), 1);
        check.due("one(1, 6)", x.one(1, 6), 1);
        check.due("day", x.day(), 0);
        check.due("ahead of its day", x.put(0, 0, 0), 0);
        check.due("drop", x.drop(0, 0), 0);
        check.due("day", x.day(), 1);
        check.due("late", x.put(0, 0, 0), -12);
        check.due("drop late", x.drop(0, 1), -2);
        check.due("day", x.day(), 2);
        check.due("drop played", x.drop(0, 1), -2);
        check.due("seat", x.seat(0, 1, 0), 1);
        check.due("able", x.able(0, 0), 0);
        check.due("best", x.best(0, 0), -1);
    }

    private static void dropped() {
        WhistleRoster x = Check.of(GROUND + "one p 3 at a;one r 3 at b;game k l at a on 1 100 for 60 grade 3 by 2;");
        check.due("free", x.drop(0, 0), -2);
        check.due("put", x.put(0, 0, 1), 0);
        check.due("drop", x.drop(0, 0), 1);
        check.due("seat", x.seat(0, 0, 0), -1);
        check.due("again", x.drop(0, 0), -2);
        check.due("one(1, 6)", x.one(1, 6), 0);
        check.due("it may again", x.why(0, 1, 1), 0);
        check.due("acts", x.has(9), 2);
    }

    private static void swaps(WhistleRoster x, int game, int seat, int other, int place, int due) {
        String seats = "(" + game + ", " + seat + ", " + other + ", " + place + ")";
        int acts = x.has(9);
        check.due("could" + seats, x.could(game, seat, other, place), due);
        check.due("acts after could" + seats, x.has(9), acts);
        check.due("swap" + seats, x.swap(game, seat, other, place), due);
        check.due("acts after swap" + seats, x.has(9), due == 0 ? acts + 1 : acts);
    }

    private static void exchanged() {
        WhistleRoster x = Check.of(GROUND + "one p 3 at a;one r 3 at b;most 1;"
            + "game k l at a on 0 100 for 60 grade 3 by 2;game k l at b on 0 100 for 60 grade 3 by 2;");
        check.due("put", x.put(0, 0, 1), 0);
        check.due("put", x.put(1, 1, 0), 0);
        swaps(x, 0, 0, 1, 1, 0);
        check.due("seat", x.seat(0, 0, 0), 0);
        check.due("seat", x.seat(1, 1, 0), 1);
        check.due("seats of both", x.one(0, 6) * 10 + x.one(1, 6), 11);
        check.due("round", x.round(0, 0), 0);
        check.due("round", x.round(1, 0), 0);
        swaps(x, 1, 1, 0, 0, 0);
        check.due("seat", x.seat(0, 0, 0), 1);
        check.due("round", x.round(0, 0), 60);
    }

    private static void exchangeRefused() {
        WhistleRoster x = Check.of(GROUND + "one p 3 at a;one r 3 at b;one s 3 at a no k;one t 2 at a;"
            + "game k l at a on 1 100 for 60 grade 2 by 3;game k l at b on 2 100 for 60 grade 2 by 2;"
            + "game m n at b on 3 100 for 60 grade 3 by 2;game m n at b on 0 100 for 60 grade 1;game k l at b on 1 130 for 60 grade 2;");
        check.due("put", x.put(0, 0, 0), 0);
        check.due("put", x.put(0, 1, 1), 0);
        check.due("put", x.put(1, 0, 1), 0);
        check.due("put", x.put(2, 0, 2), 0);
        check.due("put", x.put(1, 1, 3), 0);
        check.due("put", x.put(3, 0, 2), 0);
        check.due("put", x.put(2, 1, 3), 0);
        swaps(x, 0, 3, 1, 0, -1);
        swaps(x, 0, 0, 5, 0, -1);
        swaps(x, -1, 0, 1, 0, -1);
        swaps(x, 0, 0, 1, -1, -1);
        swaps(x, 0, 2, 1, 0, -3);
        swaps(x, 1, 0, 0, 2, -3);
        swaps(x, 0, 2, 0, 2, -3);
        swaps(x, 0, 0, 0, 0, -4);
        swaps(x, 0, 0, 0, 1, -4);
        swaps(x, 0, 1, 1, 0, -4);
        swaps(x, 0, 0, 1, 1, -5);
        swaps(x, 1, 1, 2, 1, -4);
        swaps(x, 0, 0, 1, 0, -6);
        swaps(x, 0, 0, 2, 0, -6);
        swaps(x, 2, 0, 0, 0, -6);
        check.due("put", x.put(4, 0, 1), -9);
        check.due("day", x.day(), 0);
        check.due("day", x.day(), 1);
        swaps(x, 3, 0, 0, 0, -2);
        swaps(x, 0, 0, 3, 0, -2);
        swaps(x, 3, 1, 0, 0, -1);
        swaps(x, 0, 2, 3, 0, -2);
        swaps(x, 3, 0, 3, 0, -2);
    }

    private static void exchangeLate() {
        WhistleRoster x = Check.of(GROUND + "one p 3 at a;one r 3 at b;one s 2 at b;"
            + "game k l at a on 0 100 for 60 grade 2;game k l at b on 1 100 for 60 grade 2;game k l at b on 2 100 for 60 grade 2;");
        check.due("put", x.put(0, 0, 1), 0);
        check.due("put", x.put(1, 0, 0), 0);
        check.due("put", x.put(2, 0, 2), 0);
        check.due("day", x.day(), 0);
        swaps(x, 0, 0, 2, 0, -5);
        swaps(x, 0, 0, 1, 0, 0);
        check.due("seat", x.seat(0, 0, 0), 0);
        check.due("seat", x.seat(1, 0, 0), 1);
    }

    private static void ableAndBest() {
        WhistleRoster x = Check.of(GROUND + "one p 3 at c;one r 3 at b;one s 3 at b;one t 1 at a;"
            + "game k l at a on 0 100 for 60 grade 2 by 2;game k l at a on 0 300 for 60 grade 2;game k l at z on 0 300 for 60 grade 1;");
        check.due("able", x.able(0, 0), 7);
        check.due("able to sit second", x.able(0, 1), 15);
        check.due("best is nearest", x.best(0, 0), 1);
        check.due("best of all", x.best(0, 1), 3);
        check.due("nobody", x.able(2, 0), 0);
        check.due("nobody", x.best(2, 0), -1);
        check.due("put", x.put(1, 0, 0), 0);
        check.due("best is there anyway", x.best(0, 0), 0);
        check.due("extra", x.extra(0, 0, 0), 0);
        check.due("put", x.put(0, 0, 2), 0);
        check.due("able of a taken seat", x.able(0, 0), 0);
        check.due("best of a taken seat", x.best(0, 0), -1);
    }

    private static void bestByFee() {
        String ones = "one p 3 at b;one r 2 at b;one s 2 at b;one t 3 at a;";
        String game = "game k l at b on 0 100 for 60 grade 2;";
        check.due("least fee", Check.of(GROUND + ones + game + "fee grade*10;").best(0, 0), 1);
        check.due("dearest is least", Check.of(GROUND + ones + game + "fee 100-grade*10;").best(0, 0), 0);
        check.due("untold ones last", Check.of(GROUND + ones + game + "fee 1/(grade-2);").best(0, 0), 0);
        check.due("untold, and dearer than others",
            Check.of(GROUND + ones + game + "fee 2147*9999*100+grade/(3-grade);").best(0, 0), 1);
        check.due("untold all", Check.of(GROUND + ones + game + "fee 1/0;").best(0, 0), 0);
        check.due("no law", Check.of(GROUND + ones + game).best(0, 0), 0);
        check.due("minutes come first", Check.of(GROUND + "one p 2 at a;one r 5 at b;" + game + "fee grade*1000;").best(0, 0), 1);
        check.due("an untold one that is nearer", Check.of(GROUND + "one p 2 at a;one r 5 at b;" + game
            + "fee 1/(grade-5);").best(0, 0), 1);
        check.due("below 0", Check.of(GROUND + ones + game + "fee 0-grade;").best(0, 0), 0);
    }

    private static void extras() {
        WhistleRoster x = Check.of(GROUND + "one p 3 at a;one r 1 at c no k;one s 5 at z;most 1;"
            + "game k l at b on 0 100 for 60 grade 3 by 2;game k l at c on 0 300 for 60 grade 3;game k l at b on 0 500 for 60 grade 3;"
            + "game k l at b on 1 0 for 60 grade 3;game k l at z on 0 310 for 60 grade 3;");
        check.due("extra", x.extra(0, 0, 0), 60);
        check.due("extra whether it may or not", x.extra(0, 0, 1), 40);
        check.due("extra without a way", x.extra(0, 0, 2), 1998);
        check.due("put", x.put(0, 0, 0), 0);
        check.due("of the seat it has", x.extra(0, 0, 0), 60);
        check.due("of another seat of the game", x.extra(0, 1, 0), 0);
        check.due("of a seat that another one has", x.extra(0, 0, 1), 40);
        check.due("a field further on", x.extra(1, 0, 0), 40);
        check.due("the same field", x.extra(2, 0, 0), 0);
        check.due("another day", x.extra(3, 0, 0), 60);
        check.due("beyond all ways", x.extra(4, 0, 0), 30 + 999 + 999 - 60);
        check.due("rounds stay", x.round(0, 0), 60);
        // of games that begin at once the one with the lesser number is come to first
        x = Check.of(GROUND + "one p 3 at a;rest 0;game k l at b on 0 300 for 60 grade 1;game k l at c on 0 100 for 60 grade 1;"
            + "game k l at c on 0 300 for 60 grade 1;game k l at b on 0 100 for 60 grade 1;");
        check.due("puts", x.put(1, 0, 0) + x.put(0, 0, 0), 0);
        check.due("round", x.round(0, 0), 100);
        check.due("c, b, c, a", x.extra(2, 0, 0), 50 + 20 + 20 + 50 - 100);
        check.due("c, b, b, a", x.extra(3, 0, 0), 0);
        check.due("drops and puts", x.drop(0, 0) + x.drop(1, 0) + x.put(2, 0, 0) + x.put(3, 0, 0), 0);
        check.due("b, b, c, a", x.extra(0, 0, 0), 0);
        check.due("c, b, c, a", x.extra(1, 0, 0), 40);
    }

    private static long fee(String law) {
        WhistleRoster x = Check.of(GROUND + "one p 4 at a;game k l at c on 3 700 for 95 grade 5 by 3;game k l at z on 1 0 for 10 grade 1 by 2;fee " + law + ";");
        return x.fee(0, 2, 0);
    }

    private static void laws() {
        check.due("no law", Check.of(GROUND + "one p 4 at a;game k l at c on 3 700 for 95 grade 5;").fee(0, 0, 0), 0);
        String[] words = {"grade", "need", "seat", "lasts", "day", "begins", "way", "form"};
        int[] due = {4, 4, 2, 95, 3, 700, 50, 50};
        for (int i = 0; i < words.length; i++) {
            check.due("fee " + words[i], fee(words[i]), due[i]);
            check.due("fee of itself " + words[i], fee(words[i] + "-" + words[i]), 0);
        }
        check.due("fee", fee("1+2*3"), 7);
        check.due("fee", fee("(1+2)*3"), 9);
        check.due("fee", fee("10-3-2"), 5);
        check.due("fee", fee("10-(3-2)"), 9);
        check.due("fee", fee("100/10/2"), 5);
        check.due("fee", fee("100/(10/2)"), 20);
        check.due("fee", fee("7/2*2"), 6);
        check.due("fee", fee("(0-7)/2"), -4);
        check.due("fee", fee("7/(0-2)"), -4);
        check.due("fee", fee("(0-7)/(0-2)"), 3);
        check.due("fee", fee("(0-8)/2"), -4);
        check.due("fee", fee("0/(0-2)"), 0);
        check.due("fee", fee("0009*1"), 9);
        check.due("fee", fee("((((seat))))*((grade-1)*(lasts+(day)))"), 2 * 3 * 98);
        check.due("fee", fee("1+1*(1+1*(1+1*(1+1*(1+1*1))))"), 6);
        WhistleRoster x = Check.of(GROUND + "one p 4 at a;game k l at c on 3 700 for 95 grade 5 by 3;game k l at a on 1 0 for 10 grade 1 by 2;fee need*10+seat;");
        check.due("need of seat 0", x.fee(0, 0, 0), 50);
        check.due("need of seat 1", x.fee(0, 1, 0), 41);
        check.due("need of seat 2", x.fee(0, 2, 0), 42);
        check.due("need is 1 at least", x.fee(1, 1, 0), 11);
        x = Check.of(GROUND + "one p 4 at a;game k l at a on 0 700 for 95 grade 1;game k l at a on 1 700 for 95 grade 1;fee form;");
        check.due("put", x.put(0, 0, 0), 0);
        check.due("day", x.day() + x.day(), 1);
        check.due("mark", x.mark(0, 0, 77), 56);
        check.due("form is cut", x.fee(1, 0, 0), 56);
    }

    private static void lawsUntold() {
        check.due("by 0", fee("1/0"), UNTOLD);
        check.due("0 by 0", fee("0/0"), UNTOLD);
        check.due("by 0 and more", fee("1/(day-3)+5"), UNTOLD);
        check.due("by 0, times 0", fee("0*(1/0)"), UNTOLD);
        check.due("most", fee("8192*8192*32-1+0*0"), UNTOLD);
        check.due("most", fee("(8192*8192*16-1)*2+1"), 2147483647);
        check.due("most", fee("(8192*8192*16-1)*2+2"), UNTOLD);
        check.due("most, back", fee("(8192*8192*16-1)*2+2-9"), UNTOLD);
        check.due("least", fee("0-8192*8192*16-8192*8192*16"), -2147483648L);
        check.due("least", fee("0-8192*8192*16-8192*8192*16-1"), UNTOLD);
        check.due("least by -1", fee("(0-8192*8192*16-8192*8192*16)/(0-1)"), UNTOLD);
        check.due("least by 1", fee("(0-8192*8192*16-8192*8192*16)/1"), -2147483648L);
        check.due("least by times", fee("8192*8192*16*(0-2)"), -2147483648L);
        check.due("beyond long", fee("9999*9999*21*(9999*9999*21)"), UNTOLD);
        WhistleRoster x = Check.of(GROUND + "one p 4 at a;game k l at z on 3 700 for 95 grade 5;fee way;");
        check.due("no way", x.fee(0, 0, 0), UNTOLD);
        x = Check.of(GROUND + "one p 4 at a;game k l at z on 3 700 for 95 grade 5;fee 0*way+7;");
        check.due("no way, times 0", x.fee(0, 0, 0), UNTOLD);
        x = Check.of(GROUND + "one p 4 at a;game k l at z on 3 700 for 95 grade 5;fee 7;");
        check.due("no way, not asked", x.fee(0, 0, 0), 7);
    }

    private static void feesTogether() {
        WhistleRoster x = Check.of(GROUND + "one p 4 at a;one r 3 at b;one s 2 at c;"
            + "game k l at a on 3 700 for 95 grade 2 by 3;game k l at b on 4 700 for 90 grade 2 by 3;"
            + "fee lasts*10/(grade-3)+seat;");
        check.due("nothing", x.fees(-1), 0);
        check.due("nothing", x.fees(0), 0);
        check.due("puts", x.put(0, 0, 0) + x.put(0, 1, 2) + x.put(0, 2, 1) + x.put(1, 2, 0), 0);
        check.due("of one", x.fees(0), 950 + 902);
        check.due("untold", x.fees(1), 0);
        check.due("below 0", x.fees(2), -949);
        check.due("of all", x.fees(-1), 950 + 902 - 949);
        check.due("none such", x.fees(3), UNTOLD);
        check.due("none such", x.fees(-2), UNTOLD);
        check.due("none such", x.fees(Integer.MIN_VALUE), UNTOLD);
        x = Check.of(GROUND + "one p 4 at a;game k l at a on 3 700 for 95 grade 2;game k l at a on 4 700 for 95 grade 2;fee (8192*8192*16-1)*2+1;");
        check.due("puts", x.put(0, 0, 0) + x.put(1, 0, 0), 0);
        check.due("beyond int", x.fees(-1), 2L * 2147483647);
        check.due("beyond int", x.fees(0), 2L * 2147483647);
    }
}
