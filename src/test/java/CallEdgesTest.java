import java.util.NoSuchElementException;

/** Promises 1 to 24, a sentence at a time: what each call answers at its edges, and when it refuses. */
public final class CallEdgesTest {
    private static final Check check = new Check("CallEdgesTest");
    private static final String GROUND = "field a;field b;field c;field z;road a b 30;road b c 20;club k;club l;club m;club n;";
    private static final long UNTOLD = Long.MIN_VALUE;
    private static final int LOW = Integer.MIN_VALUE;
    private static final int HIGH = Integer.MAX_VALUE;
    private static final int BLANKS = 0x20202020;

    public static void main(String[] args) {
        weekOfNothing();
        feedUpToTheEnd();
        feedHighestFirst();
        endOfTheTape();
        weekTakesTheTape();
        faultOfTheLatestWeek();
        hasOfEach();
        lettersOfNames();
        officials();
        formBitsOfNobody();
        gamesTold();
        seatsAndTheirMarks();
        waysAndTheirFirstFields();
        hubs();
        whyNoneSuch();
        putRefused();
        putLate();
        dropRefused();
        swapInTurn();
        swapOfUnlikeNeeds();
        swapTouchesNothingElse();
        ableAsBits();
        bestByExtraFeeNumber();
        extraOfSeats();
        feeAndFees();
        fullWeek();
        check.close();
    }

    private static void puts(WhistleRoster x, int... each) {
        for (int i = 0; i < each.length; i += 3) {
            check.due("put(" + each[i] + ", " + each[i + 1] + ", " + each[i + 2] + ")", x.put(each[i], each[i + 1], each[i + 2]), 0);
        }
    }

    private static void days(WhistleRoster x, int until) {
        for (int d = x.has(6) + 1; d <= until; d++) {
            check.due("day", x.day(), d);
        }
    }

    // 1: "A WEEK of nothing"
    private static void weekOfNothing() {
        WhistleRoster x = new WhistleRoster();
        int[] has = {0, 0, 0, 0, 10, 3, -1, 0, 0, 0, 0};
        for (int what = 0; what < has.length; what++) {
            check.due("has(" + what + ")", x.has(what), has[what]);
        }
        check.due("fault(0)", x.fault(0), 0);
        check.due("fault(1)", x.fault(1), -1);
        for (int sort = 0; sort < 3; sort++) {
            check.due("letter", x.letter(sort, 0, 0), -1);
        }
        check.due("one", x.one(0, 0), -2);
        check.due("formBits", x.formBits(0), -1);
        check.due("game", x.game(0, 0), -1);
        check.due("seat", x.seat(0, 0, 0), -2);
        check.due("way", x.way(0, 0), -1);
        check.due("toward", x.toward(0, 0), -1);
        check.due("hub", x.hub(), -1);
        check.due("why", x.why(0, 0, 0), 1);
        check.due("put", x.put(0, 0, 0), -1);
        check.due("drop", x.drop(0, 0), -2);
        check.due("swap", x.swap(0, 0, 0, 0), -1);
        check.due("could", x.could(0, 0, 0, 0), -1);
        check.due("able", x.able(0, 0), -1);
        check.due("best", x.best(0, 0), -1);
        check.due("extra", x.extra(0, 0, 0), -1);
        check.due("fee", x.fee(0, 0, 0), UNTOLD);
        check.due("fees(0)", x.fees(0), UNTOLD);
        check.due("fees(NONE)", x.fees(-1), 0);
        check.due("crew", x.crew(0, 0), -1);
        check.due("fill", x.fill(), 0);
        check.due("steps", x.steps(0, 0, 0), -1);
        check.due("unsound(NONE)", x.unsound(-1), 0);
        check.due("unsound(0)", x.unsound(0), -1);
        int[] exchange = {0, -1, -1, -1, -1, -2};
        for (int what = 0; what < exchange.length; what++) {
            check.due("exchange(" + what + ")", x.exchange(what), exchange[what]);
        }
        check.due("round", x.round(0, 0), -1);
        check.due("trip", x.trip(0, 0, 2), -10000);
        check.due("spread", x.spread(0), -1);
        check.due("mark", x.mark(0, 0, 0), -1);
        check.due("rank", x.rank(0), -1);
        check.due("undo", x.undo(), -1);
        check.due("review", x.review(9, 9), 0);
        check.due("play", x.play(0), 0);
        check.due("day", x.day(), 1);
        check.due("undo", x.undo(), 2);
    }

    // 2: "how many it has; NONE, and none come, if there would be more than 1,200"
    private static void feedUpToTheEnd() {
        for (int keep : new int[] {1200, 1181, 1180, 1179, 1, 0}) {
            WhistleRoster x = new WhistleRoster();
            for (int i = 1; i <= 60; i++) {
                check.due("feed", x.feed(BLANKS, BLANKS, BLANKS, BLANKS, BLANKS), 20 * i);
            }
            check.due("feed beyond 1,200", x.feed(1, 2, 3, 4, 5), -1);
            check.due("none come", x.has(10), 1200);
            check.due("end", x.end(keep), true);
            boolean fits = keep <= 1180;
            check.due("feed behind " + keep, x.feed(BLANKS, BLANKS, BLANKS, BLANKS, BLANKS), fits ? keep + 20 : -1);
            check.due("how many", x.has(10), fits ? keep + 20 : keep);
            check.due("week() of blanks", x.week(), 0);
            check.due("feed on an empty TAPE", x.feed(BLANKS, 0, 0, 0, 0), 20);
        }
    }

    // 2: "four of each number, the highest first", the sign of a number is none
    private static void feedHighestFirst() {
        WhistleRoster x = new WhistleRoster();
        // "field abcdef;club xyz"
        check.due("feed", x.feed(0x6669656c, 0x64206162, 0x63646566, 0x3b636c75, 0x62207879), 20);
        check.due("feed", x.feed(0x7a3b2020, -1, 0x80000000, HIGH, 0), 40);
        check.due("end", x.end(24), true);
        check.due("week()", x.week(), 0);
        for (int i = 0; i < 6; i++) {
            check.due("letter of the FIELD", x.letter(0, 0, i), i);
        }
        for (int i = 0; i < 3; i++) {
            check.due("letter of the CLUB", x.letter(1, 0, i), 23 + i);
        }
        for (int shift = 0; shift < 32; shift += 8) {
            for (int n : new int[] {-1, 0xffffffff ^ 0xff << shift ^ 0x20 << shift}) {
                check.due("feed", x.feed(BLANKS, BLANKS, n, BLANKS, BLANKS), 20);
                check.due("week()", x.week(), -1);
                check.due("a byte of 255 is no blank", x.fault(1), n == -1 || shift < 24 ? 8 : 9);
            }
        }
    }

    // 3: "true; false if it has not so many, or n is below 0"
    private static void endOfTheTape() {
        WhistleRoster x = new WhistleRoster();
        check.due("end(0) of none", x.end(0), true);
        check.due("end(1) of none", x.end(1), false);
        x.feed(BLANKS, BLANKS, BLANKS, BLANKS, BLANKS);
        int[] refused = {21, 22, 1200, 1201, HIGH, -1, LOW};
        for (int n : refused) {
            check.due("end(" + n + ") of 20", x.end(n), false);
            check.due("it has all", x.has(10), 20);
        }
        check.due("end(20)", x.end(20), true);
        check.due("has", x.has(10), 20);
        check.due("end(19)", x.end(19), true);
        check.due("has", x.has(10), 19);
        check.due("end(20) again", x.end(20), false);
        check.due("end(0)", x.end(0), true);
        check.due("has", x.has(10), 0);
        check.due("end(1)", x.end(1), false);
    }

    // 4: "THE TAPE (empty then, in each case) ... NONE with a FAULT (the WEEK stays)"
    private static void weekTakesTheTape() {
        WhistleRoster x = Check.of(GROUND + "one o 1 at b;game k l at a on 3 0 for 10 grade 2 by 2;rest 5;most 4;fee 7;off o 1;");
        check.due("empty then", x.has(10), 0);
        check.due("end(1)", x.end(1), false);
        Check.feed(x, "field q;rest 121;");
        check.due("week()", x.week(), -1);
        check.due("empty then", x.has(10), 0);
        int[] has = {4, 4, 1, 1, 5, 4, -1, 2, 0, 0, 0};
        for (int what = 0; what < has.length; what++) {
            check.due("the WEEK stays, has(" + what + ")", x.has(what), has[what]);
        }
        check.due("the WEEK stays", x.letter(0, 0, 0), 0);
        check.due("the WEEK stays", x.one(0, 1), 1);
        check.due("the WEEK stays", x.one(0, 3), 2);
        check.due("the WEEK stays", x.way(0, 2), 50);
        check.due("the WEEK stays", x.fee(0, 1, 0), 7);
        check.due("the WEEK stays", x.game(0, 3), 3);
        check.due("week() of an empty TAPE", x.week(), 0);
        check.due("is a WEEK of nothing", x.has(0), 0);
        Check.feed(x, GROUND + "game k l at a on 3 0 for 10 grade 2;".repeat(16));
        check.due("how many GAMES", x.week(), 16);
    }

    // 5: "Of the latest week() what 0 its FAULT (0 without), 1 its place (NONE). NONE for another what."
    private static void faultOfTheLatestWeek() {
        WhistleRoster x = new WhistleRoster();
        for (int round = 0; round < 2; round++) {
            check.due("without", x.fault(0), 0);
            check.due("without", x.fault(1), -1);
            Check.feed(x, "field f;rest 121;");
            check.due("not yet", x.fault(0), 0);
            check.due("week()", x.week(), -1);
            check.due("FAULT", x.fault(0), 2);
            check.due("its place", x.fault(1), 13);
            for (int what : new int[] {2, 3, -1, LOW, HIGH}) {
                check.due("fault(" + what + ")", x.fault(what), -1);
            }
            Check.feed(x, ";");
            check.due("week()", x.week(), -1);
            check.due("FAULT", x.fault(0), 1);
            check.due("its place", x.fault(1), 0);
            check.due("week()", x.week(), 0);
        }
    }

    // 6: "-2 for another what"
    private static void hasOfEach() {
        WhistleRoster x = Check.of(GROUND + "one o 1 at b;one p 1 at b;game k l at a on 3 0 for 10 grade 2 by 2;game k l at a on 3 0 for 10 grade 1 by 3;");
        for (int what : new int[] {-1, -2, 11, 12, LOW, HIGH}) {
            check.due("has(" + what + ")", x.has(what), -2);
        }
        puts(x, 1, 2, 0, 1, 0, 1);
        x.feed(0, 0, 0, 0, 0);
        int[] has = {4, 4, 2, 2, 10, 3, -1, 5, 2, 2, 20};
        for (int what = 0; what < has.length; what++) {
            check.due("has(" + what + ")", x.has(what), has[what]);
        }
    }

    // 7: "NONE: there is none such"
    private static void lettersOfNames() {
        WhistleRoster x = Check.of("field a;club zyxwvu;one bc 1 at a;one d 1 at a;");
        int[][] none = {{-1, 0, 0}, {3, 0, 0}, {LOW, 0, 0}, {HIGH, 0, 0}, {0, -1, 0}, {0, 1, 0}, {1, 1, 0}, {2, 2, 0}, {0, LOW, 0}, {2, HIGH, 0},
            {0, 0, -1}, {0, 0, 1}, {0, 0, 2}, {1, 0, 6}, {1, 0, 7}, {2, 0, 2}, {2, 0, 3}, {2, 1, 1}, {2, 1, 2}, {1, 0, LOW}, {1, 0, HIGH}, {0, 0, 5}};
        for (int[] a : none) {
            check.due("letter(" + a[0] + ", " + a[1] + ", " + a[2] + ")", x.letter(a[0], a[1], a[2]), -1);
        }
        check.due("the only one", x.letter(0, 0, 0), 0);
        check.due("the first of six", x.letter(1, 0, 0), 25);
        check.due("the last of six", x.letter(1, 0, 5), 20);
        check.due("of the second OFFICIAL", x.letter(2, 1, 0), 3);
    }

    // 8: "-2: there is none such, or another what"
    private static void officials() {
        WhistleRoster x = Check.of(GROUND + "one o 1 at z no n no k;one p 5 at a;off o 0;off o 6;game k l at a on 0 0 for 10 grade 1;");
        int[][] due = {{1, 3, 9, 65, 0, 50, 0}, {5, 0, 0, 0, 0, 50, 0}};
        for (int o = 0; o < 2; o++) {
            for (int what = 0; what < 7; what++) {
                check.due("one(" + o + ", " + what + ")", x.one(o, what), due[o][what]);
            }
        }
        int[][] none = {{2, 0}, {-1, 0}, {HIGH, 0}, {LOW, 0}, {0, 7}, {0, -1}, {0, HIGH}, {0, LOW}, {2, 7}, {10, 4}};
        for (int[] a : none) {
            check.due("one(" + a[0] + ", " + a[1] + ")", x.one(a[0], a[1]), -2);
        }
        puts(x, 0, 0, 1);
        check.due("SEATS it has", x.one(1, 6), 1);
        check.due("drop", x.drop(0, 0), 1);
        check.due("SEATS it has", x.one(1, 6), 0);
    }

    // 9: "NONE: there is none such"
    private static void formBitsOfNobody() {
        WhistleRoster x = Check.of("field a;one o 1 at a;");
        check.due("formBits", x.formBits(0), 0x42480000);
        for (int o : new int[] {-1, 1, 10, LOW, HIGH}) {
            check.due("formBits(" + o + ")", x.formBits(o), -1);
        }
    }

    // 10: "NONE: there is none such, or another what"
    private static void gamesTold() {
        WhistleRoster x = Check.of(GROUND + "game n k at z on 6 1299 for 140 grade 5 by 3;");
        int[] due = {3, 0, 3, 6, 1299, 140, 5, 3, 0};
        for (int what = 0; what < due.length; what++) {
            check.due("game(0, " + what + ")", x.game(0, what), due[what]);
        }
        int[][] none = {{0, 9}, {0, -1}, {0, LOW}, {0, HIGH}, {1, 0}, {-1, 0}, {16, 0}, {LOW, 0}, {HIGH, 8}};
        for (int[] a : none) {
            check.due("game(" + a[0] + ", " + a[1] + ")", x.game(a[0], a[1]), -1);
        }
    }

    // 11: "(what 0; NONE nobody), its MARK (1; NONE without). -2: there is none such, or another what."
    private static void seatsAndTheirMarks() {
        WhistleRoster x = Check.of(GROUND + "one o 1 at a;game k l at a on 0 0 for 10 grade 1 by 2;game k l at a on 1 0 for 10 grade 1;");
        puts(x, 0, 1, 0);
        check.due("nobody", x.seat(0, 0, 0), -1);
        check.due("who", x.seat(0, 1, 0), 0);
        check.due("without", x.seat(0, 1, 1), -1);
        days(x, 1);
        check.due("mark", x.mark(0, 1, 0), 37);
        check.due("a MARK of 0", x.seat(0, 1, 1), 0);
        check.due("without", x.seat(0, 0, 1), -1);
        int[][] none = {{0, 2, 0}, {0, -1, 0}, {0, 3, 1}, {1, 1, 0}, {2, 0, 0}, {-1, 0, 0}, {0, 0, 2}, {0, 0, -1}, {LOW, 0, 0}, {HIGH, 0, 0},
            {0, LOW, 0}, {0, HIGH, 0}, {0, 0, LOW}, {0, 0, HIGH}, {16, 0, 0}};
        for (int[] a : none) {
            check.due("seat(" + a[0] + ", " + a[1] + ", " + a[2] + ")", x.seat(a[0], a[1], a[2]), -2);
        }
    }

    // 12, 13: "NONE: there is none, (both are one,) no such FIELDS"
    private static void waysAndTheirFirstFields() {
        WhistleRoster x = Check.of(GROUND);
        int[][] none = {{-1, 0}, {0, -1}, {4, 0}, {0, 4}, {4, 4}, {-1, -1}, {6, 6}, {LOW, LOW}, {HIGH, HIGH}, {LOW, 0}, {0, HIGH}, {0, 3}, {3, 0}};
        for (int[] a : none) {
            check.due("way(" + a[0] + ", " + a[1] + ")", x.way(a[0], a[1]), -1);
            check.due("toward(" + a[0] + ", " + a[1] + ")", x.toward(a[0], a[1]), -1);
        }
        for (int f = 0; f < 4; f++) {
            check.due("way to itself", x.way(f, f), 0);
            check.due("toward itself", x.toward(f, f), -1);
        }
        check.due("toward over another one", x.toward(0, 2), 1);
        check.due("toward straight", x.toward(1, 2), 2);
        check.due("toward back", x.toward(2, 0), 1);
    }

    // 14: "(one that there isn't: 999), of several the least. NONE: no FIELDS."
    private static void hubs() {
        check.due("no FIELDS", Check.of("club k;").hub(), -1);
        check.due("one FIELD", Check.of("field a;").hub(), 0);
        check.due("of like ones the least", Check.of("field a;field b;field c;field e;road b c 5;road e b 5;road e c 5;").hub(), 1);
        // a: 2 * 999; b and c: 240 + 999
        check.due("no WAY is more than a long road", Check.of("field a;field b;field c;road b c 240;").hub(), 1);
        // a: 3 * 999; b and e: 240 + 480 + 999; c: 240 + 240 + 999
        check.due("999 for each that there isn't", Check.of("field a;field b;field c;field e;road b c 240;road c e 240;").hub(), 2);
        // a, b: 1 + 4 * 999; c: 240 + 3 * 240 of four at a star with c in the middle, e, f, g: 240 + 2 * 480 + 2 * 999
        check.due("the middle of a star", Check.of("field a;field b;field c;field e;field f;field g;road a b 1;road c e 240;road c f 240;road c g 240;").hub(), 2);
    }

    private static final int[][] NONE_SUCH = {{-1, 0, 0}, {2, 0, 0}, {16, 0, 0}, {LOW, 0, 0}, {HIGH, 0, 0}, {0, -1, 0}, {0, 2, 0}, {1, 1, 0},
        {0, 3, 0}, {0, LOW, 0}, {0, HIGH, 0}, {0, 0, -1}, {0, 0, 2}, {0, 0, 10}, {0, 0, LOW}, {0, 0, HIGH}, {0, 0, 32}};

    private static WhistleRoster small() {
        return Check.of(GROUND + "one o 3 at a;one p 2 at b;game k l at a on 2 0 for 10 grade 3 by 2;game k l at b on 4 0 for 10 grade 1;");
    }

    // 15: "WHY, 0 without"
    private static void whyNoneSuch() {
        WhistleRoster x = small();
        for (int[] a : NONE_SUCH) {
            check.due("why(" + a[0] + ", " + a[1] + ", " + a[2] + ")", x.why(a[0], a[1], a[2]), 1);
        }
        check.due("0 without", x.why(0, 0, 0), 0);
        check.due("0 without", x.why(1, 0, 1), 0);
        days(x, 2);
        check.due("LATE is none", x.why(0, 0, 0), 0);
        days(x, 3);
        check.due("PLAYED", x.why(0, 0, 0), 2);
    }

    // 16: "else below 0: less WHY ... Nothing happens then."
    private static void putRefused() {
        WhistleRoster x = small();
        for (int[] a : NONE_SUCH) {
            check.due("put(" + a[0] + ", " + a[1] + ", " + a[2] + ")", x.put(a[0], a[1], a[2]), -1);
        }
        check.due("less 5", x.put(0, 0, 1), -5);
        puts(x, 0, 0, 0);
        check.due("less 3", x.put(0, 0, 1), -3);
        check.due("less 4", x.put(0, 1, 0), -4);
        check.due("who has it", x.seat(0, 0, 0), 0);
        check.due("nobody", x.seat(0, 1, 0), -1);
        check.due("taken", x.has(8), 1);
        check.due("ACTS", x.has(9), 1);
        x = Check.of(GROUND + "one o 1 at a no k;one p 1 at a;one q 1 at z;off p 0;most 1;rest 0;game k l at a on 0 0 for 10 grade 1;"
            + "game m n at b on 1 0 for 10 grade 1;game m n at c on 1 200 for 10 grade 1;game m n at z on 1 200 for 10 grade 1;");
        check.due("less 6", x.put(0, 0, 0), -6);
        check.due("less 7", x.put(0, 0, 1), -7);
        check.due("less 10", x.put(0, 0, 2), -10);
        puts(x, 1, 0, 1);
        check.due("less 8", x.put(2, 0, 1), -8);
        x = Check.of(GROUND + "one o 1 at a;rest 0;game k l at a on 0 0 for 10 grade 1;game k l at b on 0 5 for 10 grade 1;game k l at b on 0 39 for 10 grade 1;"
            + "game k l at b on 0 40 for 10 grade 1;game k l at c on 0 200 for 10 grade 1;");
        puts(x, 0, 0, 0);
        check.due("less 9", x.put(1, 0, 0), -9);
        check.due("less 10", x.put(2, 0, 0), -10);
        puts(x, 3, 0, 0);
        check.due("less 11", x.put(4, 0, 0), -11);
        check.due("ACTS", x.has(9), 2);
        check.due("taken", x.has(8), 2);
    }

    // 16: "-12: the GAME is LATE (asked ahead of 3)"
    private static void putLate() {
        WhistleRoster x = small();
        puts(x, 0, 0, 0);
        days(x, 1);
        check.due("a day ahead of it: taken", x.put(0, 0, 1), -3);
        days(x, 2);
        check.due("LATE ahead of taken", x.put(0, 0, 1), -12);
        check.due("LATE ahead of another SEAT", x.put(0, 1, 0), -12);
        check.due("LATE, and it might", x.put(0, 1, 1), -12);
        check.due("none such ahead of LATE", x.put(0, 2, 1), -1);
        check.due("none such ahead of LATE", x.put(0, 1, 2), -1);
        check.due("nothing happens", x.seat(0, 1, 0), -1);
        check.due("another GAME", x.put(1, 0, 0), 0);
        days(x, 3);
        check.due("PLAYED", x.put(0, 1, 1), -2);
        check.due("PLAYED, taken", x.put(0, 0, 1), -2);
        check.due("none such ahead of PLAYED", x.put(0, 1, -1), -1);
    }

    // 17: "who had it. -2: there is none such, it is free, the GAME is PLAYED or LATE."
    private static void dropRefused() {
        WhistleRoster x = small();
        puts(x, 0, 1, 1, 0, 0, 0);
        for (int[] a : NONE_SUCH) {
            if (a[2] == 0) {
                check.due("drop(" + a[0] + ", " + a[1] + ")", x.drop(a[0], a[1]), -2);
            }
        }
        check.due("free", x.drop(1, 0), -2);
        check.due("who had it", x.drop(0, 1), 1);
        check.due("who had it, number 0", x.drop(0, 0), 0);
        check.due("free from now on", x.drop(0, 0), -2);
        check.due("taken", x.has(8), 0);
        puts(x, 0, 0, 0);
        days(x, 1);
        check.due("a day ahead", x.drop(0, 0), 0);
        puts(x, 0, 0, 0);
        days(x, 2);
        int acts = x.has(9);
        check.due("LATE", x.drop(0, 0), -2);
        days(x, 3);
        check.due("PLAYED", x.drop(0, 0), -2);
        check.due("who has it", x.seat(0, 0, 0), 0);
        check.due("ACTS", x.has(9), Math.min(8, acts + 1));
    }

    private static void swaps(WhistleRoster x, int game, int seat, int other, int place, int due) {
        String seats = "(" + game + ", " + seat + ", " + other + ", " + place + ")";
        int acts = x.has(9);
        int a = x.seat(game, seat, 0);
        int b = x.seat(other, place, 0);
        check.due("could" + seats, x.could(game, seat, other, place), due);
        check.due("could" + seats + " turned", x.could(other, place, game, seat), due);
        check.due("nothing happens", x.seat(game, seat, 0) == a && x.seat(other, place, 0) == b && x.has(9) == acts, true);
        check.due("swap" + seats, x.swap(game, seat, other, place), due);
        check.due("who has the one", x.seat(game, seat, 0), due == 0 ? b : a);
        check.due("who has the other", x.seat(other, place, 0), due == 0 ? a : b);
        check.due("ACTS", x.has(9), due == 0 ? Math.min(8, acts + 1) : acts);
    }

    // 18, 19: -1 to -6, the first that is so
    private static void swapInTurn() {
        WhistleRoster x = Check.of(GROUND + "one o 3 at a no n;one p 3 at b;one q 2 at a;rest 0;game k l at a on 1 0 for 10 grade 2 by 3;game k l at b on 1 300 for 10 grade 2 by 3;"
            + "game m n at b on 3 0 for 10 grade 2;game k l at b on 0 0 for 10 grade 2 by 2;");
        puts(x, 0, 0, 0, 0, 1, 1, 1, 0, 1, 1, 1, 2, 2, 0, 1, 3, 0, 0);
        int[][] none = {{-1, 0}, {4, 0}, {16, 0}, {LOW, 0}, {HIGH, 0}, {0, -1}, {0, 3}, {2, 1}, {0, LOW}, {0, HIGH}};
        for (int[] a : none) {
            swaps(x, a[0], a[1], 1, 0, -1);
            swaps(x, a[0], a[1], a[0], a[1], -1);
        }
        swaps(x, 0, 2, 1, 0, -3);
        swaps(x, 0, 2, 0, 2, -3);
        swaps(x, 0, 2, 0, 0, -3);
        swaps(x, 0, 0, 0, 0, -4);
        swaps(x, 0, 0, 0, 1, -4);
        swaps(x, 0, 1, 1, 0, -4);
        swaps(x, 0, 0, 3, 0, -4);
        swaps(x, 0, 0, 1, 1, -5);
        // o is BARRED n; p has another SEAT of GAME 0
        swaps(x, 0, 0, 2, 0, -6);
        swaps(x, 0, 0, 1, 0, -6);
        days(x, 0);
        swaps(x, 3, 0, 2, 0, -6);
        days(x, 1);
        swaps(x, 3, 0, 2, 0, -2);
        swaps(x, 3, 0, 3, 0, -2);
        swaps(x, 3, 1, 2, 0, -2);
        swaps(x, 3, 0, 0, 2, -2);
        swaps(x, 3, 0, 0, 0, -2);
        swaps(x, 3, 2, 0, 0, -1);
        swaps(x, 3, 0, 0, 3, -1);
    }

    // 18: "one of both could not take the other's SEAT, were both free": each in turn, by each reason
    private static void swapOfUnlikeNeeds() {
        String games = "game k l at a on 1 0 for 10 grade %s;game m n at b on 2 0 for 10 grade %s;";
        String[][] due = {{"3 at a", "3 at a", "3", "1", "0"}, {"3 at a no m", "3 at a", "3", "3", "-6"}, {"3 at a", "3 at a no l", "3", "3", "-6"},
            {"3 at a", "3 at a", "3", "3", "0"}, {"3 at a", "4 at a", "3", "3", "-5"}, {"3 at b no m", "4 at a", "3", "3", "-5"}};
        for (String[] each : due) {
            WhistleRoster x = Check.of(GROUND + "one o " + each[0] + ";one p " + each[1] + ";" + String.format(games, each[2], each[3]));
            puts(x, 0, 0, 0, 1, 0, 1);
            swaps(x, 0, 0, 1, 0, Integer.parseInt(each[4]));
        }
        // off that DAY
        WhistleRoster x = Check.of(GROUND + "one o 3 at a;one p 3 at a;off o 2;" + String.format(games, 3, 3));
        puts(x, 0, 0, 0, 1, 0, 1);
        swaps(x, 0, 0, 1, 0, -6);
        // MOST and too near are asked without the SEAT that it leaves
        x = Check.of(GROUND + "one o 3 at a;one p 3 at a;most 1;game k l at a on 1 0 for 10 grade 1;game m n at b on 1 5 for 10 grade 1;game m n at b on 2 5 for 10 grade 1;");
        puts(x, 0, 0, 0, 1, 0, 1);
        swaps(x, 0, 0, 1, 0, 0);
        puts(x, 2, 0, 1);
        swaps(x, 1, 0, 2, 0, -6);
        swaps(x, 0, 0, 2, 0, -4);
        // no WAY from HOME
        x = Check.of(GROUND + "one o 3 at a;one p 3 at z;game k l at a on 1 0 for 10 grade 1;game m n at z on 1 5 for 10 grade 1;");
        puts(x, 0, 0, 0, 1, 0, 1);
        swaps(x, 0, 0, 1, 0, -6);
        // a third FIELD
        x = Check.of(GROUND + "one o 3 at a;one p 3 at a;rest 0;game k l at a on 1 0 for 10 grade 1;game m n at b on 1 200 for 10 grade 1;"
            + "game m n at b on 1 400 for 10 grade 1;game m n at c on 1 600 for 10 grade 1;");
        puts(x, 0, 0, 0, 1, 0, 0, 2, 0, 0, 3, 0, 1);
        swaps(x, 1, 0, 3, 0, -6);
        check.due("drop", x.drop(2, 0), 0);
        swaps(x, 1, 0, 3, 0, 0);
    }

    private static void swapTouchesNothingElse() {
        WhistleRoster x = Check.of(GROUND + "one o 3 at a;one p 3 at a;game k l at a on 1 0 for 10 grade 1 by 3;game m n at b on 2 5 for 10 grade 1 by 3;game m n at b on 3 5 for 10 grade 1;");
        puts(x, 0, 2, 0, 1, 1, 1, 2, 0, 1);
        days(x, 1);
        swaps(x, 0, 2, 1, 1, 0);
        check.due("SEATS of o", x.one(0, 6), 1);
        check.due("SEATS of p", x.one(1, 6), 2);
        check.due("another SEAT", x.seat(2, 0, 0), 1);
        check.due("taken", x.has(8), 3);
        check.due("undo", x.undo() >= 0, true);
        check.due("back", x.seat(0, 2, 0) * 10 + x.seat(1, 1, 0), 1);
        days(x, 2);
        swaps(x, 0, 2, 1, 1, -2);
        swaps(x, 1, 1, 2, 0, -4);
    }

    // 20: "OFFICIALS who may take a SEAT, as bits. NONE: there is none such."
    private static void ableAsBits() {
        StringBuilder ones = new StringBuilder();
        for (char c = 'a'; c < 'a' + 10; c++) {
            ones.append("one x").append(c).append(' ').append(c < 'd' ? 1 : 3).append(" at a;");
        }
        WhistleRoster x = Check.of(GROUND + ones + "game k l at a on 2 0 for 10 grade 1;game k l at a on 2 0 for 10 grade 3 by 2;game k l at a on 2 0 for 10 grade 5 by 2;");
        check.due("all ten", x.able(0, 0), 1023);
        check.due("those of GRADE", x.able(1, 0), 1016);
        check.due("nobody", x.able(2, 0), 0);
        for (int[] a : new int[][] {{-1, 0}, {3, 0}, {0, -1}, {0, 1}, {LOW, 0}, {0, HIGH}, {HIGH, 0}, {0, LOW}}) {
            check.due("able(" + a[0] + ", " + a[1] + ")", x.able(a[0], a[1]), -1);
            check.due("best(" + a[0] + ", " + a[1] + ")", x.best(a[0], a[1]), -1);
        }
        puts(x, 0, 0, 9);
        check.due("taken", x.able(0, 0), 0);
        check.due("one that is at once elsewhere", x.able(1, 0), 504);
        days(x, 2);
        check.due("LATE", x.able(1, 0), 504);
        days(x, 3);
        check.due("PLAYED", x.able(1, 0), 0);
        check.due("none such, PLAYED", x.able(1, 2), -1);
    }

    private static int best(String ones, String law) {
        return Check.of(GROUND + ones + "game k l at b on 0 0 for 10 grade 1;fee " + law + ";").best(0, 0);
    }

    // 21: "the one with the least EXTRA, of such the least FEE (UNTOLD ones last), then the least number. NONE: nobody"
    private static void bestByExtraFeeNumber() {
        check.due("least EXTRA", best("one o 1 at a;one p 5 at c;", "grade*1000"), 1);
        check.due("least FEE", best("one o 3 at a;one p 2 at a;one q 2 at a;", "grade"), 1);
        check.due("least number", best("one o 2 at a;one p 2 at a;", "grade"), 0);
        check.due("below 0", best("one o 2 at a;one p 3 at a;", "0-grade"), 1);
        check.due("UNTOLD last", best("one o 2 at a;one p 3 at a;", "1/(grade-2)"), 1);
        check.due("UNTOLD last, behind 2147483647", best("one o 2 at a;one p 3 at a;", "4096*4096*64-1+4096*4096*64+0/(grade-2)"), 1);
        check.due("2147483647 ahead of UNTOLD", best("one o 3 at a;one p 2 at a;", "4096*4096*64-1+4096*4096*64+0/(grade-2)"), 0);
        check.due("both UNTOLD", best("one o 3 at a;one p 3 at a;", "1/0"), 0);
        check.due("UNTOLD, but least EXTRA", best("one o 3 at a;one p 2 at b;", "1/(grade-2)"), 1);
        check.due("nobody", best("one o 3 at z;", "1"), -1);
        check.due("nobody at all", best("", "1"), -1);
        // not who may not, though nearer
        check.due("of those who may", best("one o 1 at b no k;one p 1 at c;", "1"), 1);
        WhistleRoster x = Check.of(GROUND + "one o 1 at a;one p 1 at a;game k l at b on 0 0 for 10 grade 1;game k l at b on 0 100 for 10 grade 1;");
        puts(x, 1, 0, 1);
        check.due("who is there anyway", x.best(0, 0), 1);
        check.due("of a SEAT that is taken", x.best(1, 0), -1);
        days(x, 0);
        check.due("LATE", x.best(0, 0), 1);
        days(x, 1);
        check.due("PLAYED", x.best(0, 0), -1);
    }

    // 22: "(whether it may or not; of a SEAT that it has: by how much ROUND would be shorter without). NONE: there is none such."
    private static void extraOfSeats() {
        WhistleRoster x = Check.of(GROUND + "one o 1 at a no k;one p 1 at z;game k l at b on 0 0 for 10 grade 5 by 2;game m n at c on 0 200 for 10 grade 1;game m n at b on 0 0 for 10 grade 1;");
        check.due("BARRED, GRADE", x.extra(0, 0, 0), 60);
        check.due("no WAY", x.extra(0, 0, 1), 999 * 2);
        puts(x, 2, 0, 0);
        check.due("at once with it", x.extra(0, 0, 0), 0);
        check.due("that it has", x.extra(2, 0, 0), 60);
        puts(x, 1, 0, 0);
        check.due("that it has, with another one", x.extra(2, 0, 0), 0);
        check.due("that it has, with another one", x.extra(1, 0, 0), 40);
        days(x, 1);
        check.due("PLAYED", x.extra(1, 0, 0), 40);
        int[][] none = {{3, 0, 0}, {-1, 0, 0}, {0, 2, 0}, {0, -1, 0}, {0, 0, 2}, {0, 0, -1}, {LOW, 0, 0}, {0, HIGH, 0}, {0, 0, HIGH}, {HIGH, 0, 0}, {0, 0, LOW}};
        for (int[] a : none) {
            check.due("extra(" + a[0] + ", " + a[1] + ", " + a[2] + ")", x.extra(a[0], a[1], a[2]), -1);
        }
    }

    // 23, 24: "Long.MIN_VALUE: UNTOLD, there is none such"; "(NONE: of all); UNTOLD ones left out"
    private static void feeAndFees() {
        WhistleRoster x = Check.of(GROUND + "one o 1 at a;one p 2 at a;one q 3 at a;game k l at b on 0 0 for 10 grade 1 by 3;game k l at b on 1 0 for 10 grade 1 by 3;"
            + "fee (4096*4096*64-1+4096*4096*64)/(2-grade)*(1-seat*seat);");
        int[][] none = {{2, 0, 0}, {-1, 0, 0}, {0, 3, 0}, {0, -1, 0}, {0, 0, 3}, {0, 0, -1}, {LOW, 0, 0}, {0, HIGH, 0}, {0, 0, HIGH}, {HIGH, 0, 0}, {0, 0, LOW}};
        for (int[] a : none) {
            check.due("fee(" + a[0] + ", " + a[1] + ", " + a[2] + ")", x.fee(a[0], a[1], a[2]), UNTOLD);
        }
        check.due("2147483647", x.fee(0, 0, 0), 2147483647L);
        check.due("0", x.fee(0, 1, 0), 0);
        check.due("times -3", x.fee(0, 2, 0), UNTOLD);
        check.due("by 0", x.fee(0, 0, 1), UNTOLD);
        check.due("-2147483647", x.fee(0, 0, 2), -2147483647L);
        check.due("nobody has any", x.fees(-1), 0);
        puts(x, 0, 0, 0, 1, 0, 0, 0, 1, 1, 1, 2, 2);
        check.due("beyond int together", x.fees(0), 2 * 2147483647L);
        check.due("UNTOLD left out", x.fees(1), 0);
        check.due("UNTOLD left out", x.fees(2), 0);
        check.due("of all", x.fees(-1), 2 * 2147483647L);
        for (int o : new int[] {-2, 3, 10, LOW, HIGH}) {
            check.due("fees(" + o + ")", x.fees(o), UNTOLD);
        }
        days(x, 1);
        check.due("PLAYED ones too", x.fees(-1), 2 * 2147483647L);
    }

    // all at their most: 6 FIELDS, 8 CLUBS, 10 OFFICIALS, 16 GAMES, 48 SEATS
    private static void fullWeek() {
        StringBuilder text = new StringBuilder();
        for (char c = 'a'; c < 'g'; c++) {
            text.append("field ").append(c).append(';').append(c > 'a' ? "road a " + c + " 1;" : "");
        }
        for (char c = 'g'; c < 'o'; c++) {
            text.append("club ").append(c).append(';');
        }
        for (char c = 'o'; c < 'y'; c++) {
            text.append("one ").append(c).append(" 1 at f;");
        }
        text.append("most 4;rest 0;fee 1;");
        for (int g = 0; g < 16; g++) {
            text.append("game g n at f on ").append(g / 4).append(' ').append(g % 4 * 100).append(" for 10 grade 1 by 3;");
        }
        WhistleRoster x = Check.of(text.toString());
        int[] has = {6, 8, 10, 16, 0, 4, -1, 48, 0};
        for (int what = 0; what < has.length; what++) {
            check.due("has(" + what + ")", x.has(what), has[what]);
        }
        check.due("the last one", x.why(15, 2, 9), 0);
        check.due("one GAME more", x.why(16, 0, 9), 1);
        check.due("one SEAT more", x.why(15, 3, 9), 1);
        check.due("one OFFICIAL more", x.why(15, 2, 10), 1);
        for (int g = 0; g < 16; g++) {
            puts(x, g, 0, 9 - g % 4, g, 1, g % 4, g, 2, (g + 4) % 10 == 9 - g % 4 || (g + 4) % 10 == g % 4 ? 5 - g % 2 : (g + 4) % 10);
        }
        check.due("all taken", x.has(8), 48);
        check.due("fees of all", x.fees(-1), 48);
        check.due("all SOUND", x.unsound(-1), 0);
        check.due("no 1st", x.unsound(0), -1);
        check.due("nothing to fill", x.fill(), 0);
        check.due("crew of the last GAME", x.crew(15, 0), 0);
        check.due("who has its last SEAT", x.crew(15, 3), x.seat(15, 2, 0));
        check.due("no exchange is shorter", x.exchange(0), 0);
        check.due("FIELDS of the last OFFICIAL", x.trip(9, 0, 2), 32);
        check.due("rounds", x.round(9, 0), 0);
        check.due("way to the last FIELD", x.way(1, 5), 2);
        check.due("hub", x.hub(), 0);
        check.due("who steps in for the last", x.steps(15, 2, 0), 1);
        days(x, 2);
        check.due("marks of DAY 2", x.play(7), 12);
        check.due("marks of DAY 3", x.play(7), 12);
        check.due("review", x.review(9, 9) >= 0, true);
        int ranks = 0;
        for (int i = 0; i < 10; i++) {
            ranks |= 1 << x.rank(i);
        }
        check.due("all ranks", ranks, 1023);
        check.due("no 11th", x.rank(10), -1);
        check.due("shelf", x.shelf(2, 1, 20), 20);
        check.due("the last OFFICIAL in the last place", x.lay(2, 19, 9, true), true);
        check.due("look", x.look(2, 19), 24);
        check.throwsOut("no 11th", NoSuchElementException.class, () -> x.lay(2, 19, 10, true) ? 1 : 0);
    }
}
