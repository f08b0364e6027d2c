/** Promises 1 to 11, but for what acts change: the tape, its faults, and what was told. */
public final class TapeTest {
    private static final Check check = new Check("TapeTest");
    private static final String GROUND = "field f;field g;road f g 30;club c;club d;one o 3 at f;";

    public static void main(String[] args) {
        newObject();
        feedAndEnd();
        weekAndItsNumbers();
        weekStaysWithFault();
        faultsOfOneKind();
        faultsOfNumbers();
        faultsOfNames();
        faultsOfTooMany();
        faultsOfLaw();
        namesAndLetters();
        whatWasTold();
        weekAfterWeek();
        check.close();
    }

    private static void fault(int number, String marked) {
        check.fault(number, marked);
    }

    private static void fine(String text, int games) {
        check.fine(text, games);
    }

    private static void newObject() {
        WhistleRoster x = new WhistleRoster();
        int[] has = {0, 0, 0, 0, 10, 3, -1, 0, 0, 0, 0, -2};
        for (int what = 0; what < has.length; what++) {
            check.due("has(" + what + ") of a new object", x.has(what), has[what]);
        }
        check.due("has(-1)", x.has(-1), -2);
        check.due("fault(0)", x.fault(0), 0);
        check.due("fault(1)", x.fault(1), -1);
        check.due("hub()", x.hub(), -1);
        check.due("look", x.undo(), -1);
        check.due("NONE", WhistleRoster.NONE, -1);
    }

    private static void feedAndEnd() {
        WhistleRoster x = new WhistleRoster();
        check.due("end(0) of nothing", x.end(0), true);
        check.due("end(1) of nothing", x.end(1), false);
        check.due("end(-1)", x.end(-1), false);
        for (int i = 1; i <= 60; i++) {
            check.due("feed " + i, x.feed(0x20202020, 0x20202020, 0x20202020, 0x20202020, 0x20202020), 20 * i);
        }
        check.due("feed beyond 1200", x.feed(0, 0, 0, 0, 0), -1);
        check.due("has(10)", x.has(10), 1200);
        check.due("end(1201)", x.end(1201), false);
        check.due("end(1200)", x.end(1200), true);
        check.due("end(1181)", x.end(1181), true);
        check.due("feed to 1201", x.feed(0, 0, 0, 0, 0), -1);
        check.due("has(10)", x.has(10), 1181);
        check.due("end(1180)", x.end(1180), true);
        check.due("feed to 1200", x.feed(0, 0, 0, 0, 0x3b), 1200);
        check.due("week() of a byte 0", x.week(), -1);
        check.due("fault(0)", x.fault(0), 1);
        check.due("fault(1)", x.fault(1), 1180);
        check.due("the tape is empty then", x.has(10), 0);
        // "field abcd;club e;  " with the highest bytes first
        check.due("feed", x.feed(0x6669656c, 0x64206162, 0x63643b63, 0x6c756220, 0x653b2020), 20);
        check.due("week()", x.week(), 0);
        check.due("the tape is empty then", x.has(10), 0);
        check.due("a field", x.letter(0, 0, 3), 3);
        check.due("a club", x.letter(1, 0, 0), 4);
    }

    private static void weekAndItsNumbers() {
        fine("", 0);
        fine("  \n ", 0);
        fine("field\nf\n;\nclub c  ;  one o 5at f no c;off o 0;off o 6to 6;", 0);
        fine(GROUND + "game c d at f on 0 0 for 10 grade 1;", 1);
        fine(GROUND + "game c d at f on 6 1299 for 140 grade 5 by 3;game d c at g on 0000 0001 for 0010 grade 1 by 1;", 2);
        fine(GROUND + "rest 0;rest 120;most 1;most 4;fee 0;", 0);
        fine(GROUND + "fee 9999*(grade+need-seat/(lasts*(day+(begins)))-way)*form;", 0);
        fine("field abcdef;", 0);
        fine("fee ((((1))))+((((2))));", 0);
        fine("field a;field b;road a b 1;field e;road e b 240;", 0);
    }

    private static void weekStaysWithFault() {
        WhistleRoster x = Check.of(GROUND + "rest 7;game c d at f on 1 0 for 10 grade 1;");
        check.due("put", x.put(0, 0, 0), 0);
        check.due("day", x.day(), 0);
        Check.feed(x, "field q;rest 9;field q;");
        check.due("week()", x.week(), -1);
        check.due("fault(0)", x.fault(0), 3);
        check.due("fault(1)", x.fault(1), 21);
        check.due("fault(2)", x.fault(2), -1);
        check.due("fault(-1)", x.fault(-1), -1);
        check.due("has(0)", x.has(0), 2);
        check.due("has(4)", x.has(4), 7);
        check.due("has(6)", x.has(6), 0);
        check.due("has(8)", x.has(8), 1);
        check.due("acts stay", x.has(9), 2);
        check.due("the tape", x.has(10), 0);
        check.due("way", x.way(0, 1), 30);
        check.due("letter", x.letter(0, 0, 0), 5);
        check.due("week() of nothing", x.week(), 0);
        check.due("fault(0)", x.fault(0), 0);
        check.due("fault(1)", x.fault(1), -1);
        int[] has = {0, 0, 0, 0, 10, 3, -1, 0, 0, 0, 0};
        for (int what = 0; what < has.length; what++) {
            check.due("has(" + what + ") of nothing", x.has(what), has[what]);
        }
    }

    private static void faultsOfOneKind() {
        fault(1, "^;");
        fault(1, "^fields a;");
        fault(1, "^a b;");
        fault(1, "^at;");
        fault(1, "^need;");
        fault(1, "^12;");
        fault(1, "^Field a;");
        fault(1, "^\tfield a;");
        fault(1, "field a^");
        fault(1, "field a  \n^");
        fault(1, "field^");
        fault(1, "field ^;");
        fault(1, "field a ^b;");
        fault(1, "field a^,");
        fault(1, "field a^1;");
        fault(1, "field ^abcdefg;");
        fault(1, "field ^seat;");
        fault(1, "field ^1;");
        fault(1, "field a;^fieldb;");
        fault(1, GROUND + "road f ^at 30;");
        fault(1, "field f;field g;road f g^;");
        fault(1, GROUND + "road ^abcdefg f 3;");
        fault(1, GROUND + "one p 3 ^f;");
        fault(1, GROUND + "one p 3 at f ^at;");
        fault(1, GROUND + "one p 3 at f no^;");
        fault(1, GROUND + "one p 3 at f no c ^d;");
        fault(1, GROUND + "off o^;");
        fault(1, GROUND + "off o 1 ^2;");
        fault(1, GROUND + "off o 1 to^;");
        fault(1, GROUND + "game c d ^f;");
        fault(1, GROUND + "game c d at f ^for;");
        fault(1, GROUND + "game c d at f on 0^, 0 for 10 grade 1;");
        fault(1, GROUND + "game c d at f on 0 0 ^grade 1;");
        fault(1, GROUND + "game c d at f on 0 0 for 10^;");
        fault(1, GROUND + "game c d at f on 0 0 for 10 grade 1 ^2;");
        fault(1, GROUND + "game c d at f on 0 0 for 10 grade 1 by^;");
        fault(1, GROUND + "game c d at f on 0 0 for 10 grade 1 by 2^");
        fault(1, "rest^;");
        fault(1, "most ^a;");
        fault(1, "\n\n field a;^\u0000");
        fault(1, "field a;^\u00ff");
    }

    private static void faultsOfNumbers() {
        fault(1, "rest ^12345;");
        fault(1, "rest ^00005;");
        fault(2, "rest ^121;");
        fault(2, "rest ^9999;");
        fault(2, "most ^0;");
        fault(2, "most ^5;");
        fault(2, "field f;field g;road f g ^0;");
        fault(2, "field f;field g;road f g ^241;");
        fault(2, "field f;one o ^0 at f;");
        fault(2, "field f;one o ^6 at f;");
        fault(2, GROUND + "off o ^7;");
        fault(2, GROUND + "off o 3 to ^2;");
        fault(2, GROUND + "off o 3 to ^7;");
        fault(2, GROUND + "game c d at f on ^7 0 for 10 grade 1;");
        fault(2, GROUND + "game c d at f on 0 ^1300 for 10 grade 1;");
        fault(2, GROUND + "game c d at f on 0 0 for ^9 grade 1;");
        fault(2, GROUND + "game c d at f on 0 0 for ^141 grade 1;");
        fault(2, GROUND + "game c d at f on 0 0 for 10 grade ^0;");
        fault(2, GROUND + "game c d at f on 0 0 for 10 grade ^6;");
        fault(2, GROUND + "game c d at f on 0 0 for 10 grade 1 by ^0;");
        fault(2, GROUND + "game c d at f on 0 0 for 10 grade 1 by ^4;");
    }

    private static void faultsOfNames() {
        fault(3, GROUND + "field ^f;");
        fault(3, GROUND + "field ^c;");
        fault(3, GROUND + "club ^o;");
        fault(3, GROUND + "club ^d;");
        fault(3, GROUND + "one ^f 3 at f;");
        fault(3, GROUND + "one ^o 9 at f;");
        fault(3, GROUND + "one p 3 at ^c;");
        fault(3, GROUND + "one p 3 at ^p;");
        fault(3, GROUND + "one p 3 at f no ^o;");
        fault(3, GROUND + "one p 3 at f no c no ^c;");
        fault(3, GROUND + "one p 3 at f no c no d no ^c;");
        fault(3, GROUND + "road ^h f 3;");
        fault(3, GROUND + "road f ^h 3;");
        fault(3, GROUND + "road f ^f 3;");
        fault(3, GROUND + "road f ^g 3;");
        fault(3, GROUND + "road g ^f 300;");
        fault(3, GROUND + "off ^f 3;");
        fault(3, GROUND + "game ^f d at f on 0 0 for 10 grade 1;");
        fault(3, GROUND + "game c ^c at f on 0 0 for 10 grade 1;");
        fault(3, GROUND + "game c ^o at f on 0 0 for 10 grade 1;");
        fault(3, GROUND + "game c d at ^c on 0 0 for 10 grade 1;");
        fault(3, "one o 3 at ^f;field f;");
    }

    private static String times(int n, String before, String after) {
        StringBuilder text = new StringBuilder();
        for (int i = 0; i < n; i++) {
            text.append(before).append((char) ('a' + i)).append(after);
        }
        return text.toString();
    }

    private static void faultsOfTooMany() {
        fine(times(6, "field f", ";"), 0);
        fault(4, times(6, "field f", ";") + "  ^field g;");
        fault(4, times(6, "field f", ";") + "^field fa;");
        fault(4, times(6, "field f", ";") + "^field");
        fine(times(8, "club f", ";"), 0);
        fault(4, times(8, "club f", ";") + "^club g;");
        fine("field x;" + times(10, "one f", " 3 at x;"), 0);
        fault(4, "field x;" + times(10, "one f", " 3 at x;") + "^one g 3 at x;");
        String game = "game c d at f on 0 0 for 10 grade 1;";
        fine(GROUND + game.repeat(16), 16);
        fault(4, GROUND + game.repeat(16) + "^" + game);
        fault(4, GROUND + game.repeat(16) + "^game;");
        fault(4, "fee 1;^fee 1;");
        fault(1, "field f;^;" + times(6, "field f", ";"));
    }

    private static void faultsOfLaw() {
        fault(1, "fee^;");
        fault(1, "fee 1+^;");
        fault(1, "fee ^-1;");
        fault(1, "fee 1 ^1;");
        fault(1, "fee 1^);");
        fault(1, "fee (1^;");
        fault(1, "fee (^);");
        fault(1, "fee ^rest;");
        fault(1, "fee 1*^a;");
        fault(1, "fee ^12345;");
        fault(1, "fee way^(1);");
        fault(5, "fee ((((^(1)))));");
        fault(5, "fee 1+((((^(1)))));");
        fault(5, "fee (1+(2*(3-(4/^(5)))));");
        fine("fee (1+(2*(3-(4/5)*(6)))*(((1))));", 0);
        fault(1, "fee 1+((((1^;");
    }

    private static void namesAndLetters() {
        WhistleRoster x = Check.of("field az;club zyxwvu;field q;one oaoao 1 at q;");
        check.due("letter", x.letter(0, 0, 0), 0);
        check.due("letter", x.letter(0, 0, 1), 25);
        check.due("letter", x.letter(0, 0, 2), -1);
        check.due("letter", x.letter(0, 0, -1), -1);
        check.due("letter", x.letter(0, 1, 0), 16);
        check.due("letter", x.letter(0, 2, 0), -1);
        check.due("letter", x.letter(0, -1, 0), -1);
        for (int i = 0; i < 6; i++) {
            check.due("letter of a club", x.letter(1, 0, i), 25 - i);
        }
        check.due("letter", x.letter(1, 0, 6), -1);
        check.due("letter", x.letter(1, 1, 0), -1);
        for (int i = 0; i < 5; i++) {
            check.due("letter of an official", x.letter(2, 0, i), i % 2 == 0 ? 14 : 0);
        }
        check.due("letter", x.letter(2, 0, 5), -1);
        check.due("letter", x.letter(3, 0, 0), -1);
        check.due("letter", x.letter(-1, 0, 0), -1);
    }

    private static void whatWasTold() {
        WhistleRoster x = Check.of(GROUND + "club e;one p 5 at g no e no c;off p 1 to 3;off p 5;off p 2;rest 3;rest 4;"
            + "most 2;game d c at g on 4 700 for 99 grade 2 by 3;game e d at f on 0 5 for 10 grade 1;");
        int[] has = {2, 3, 2, 2, 4, 2, -1, 4, 0, 0, 0};
        for (int what = 0; what < has.length; what++) {
            check.due("has(" + what + ")", x.has(what), has[what]);
        }
        int[] one = {5, 1, 5, 46, 0, 50, 0, -2};
        for (int what = 0; what < one.length; what++) {
            check.due("one(1, " + what + ")", x.one(1, what), one[what]);
        }
        check.due("one(0, 2)", x.one(0, 2), 0);
        check.due("one(0, 3)", x.one(0, 3), 0);
        check.due("one(2, 0)", x.one(2, 0), -2);
        check.due("one(-1, 0)", x.one(-1, 0), -2);
        check.due("one(0, -1)", x.one(0, -1), -2);
        check.due("formBits", x.formBits(1), Float.floatToIntBits(50f));
        check.due("formBits", x.formBits(2), -1);
        check.due("formBits", x.formBits(-1), -1);
        int[] game = {1, 0, 1, 4, 700, 99, 2, 3, 0, -1};
        for (int what = 0; what < game.length; what++) {
            check.due("game(0, " + what + ")", x.game(0, what), game[what]);
        }
        check.due("game(1, 7)", x.game(1, 7), 1);
        check.due("game(1, -1)", x.game(1, -1), -1);
        check.due("game(2, 0)", x.game(2, 0), -1);
        check.due("game(-1, 0)", x.game(-1, 0), -1);
        check.due("seat", x.seat(0, 2, 0), -1);
        check.due("seat", x.seat(0, 2, 1), -1);
        check.due("seat", x.seat(0, 3, 0), -2);
        check.due("seat", x.seat(0, -1, 0), -2);
        check.due("seat", x.seat(1, 1, 0), -2);
        check.due("seat", x.seat(2, 0, 0), -2);
        check.due("seat", x.seat(-1, 0, 0), -2);
        check.due("seat", x.seat(0, 0, 2), -2);
        check.due("seat", x.seat(0, 0, -1), -2);
        check.due("put", x.put(1, 0, 0), 0);
        check.due("seat", x.seat(1, 0, 0), 0);
        check.due("one(0, 6)", x.one(0, 6), 1);
        check.due("day", x.day(), 0);
        check.due("game(1, 8)", x.game(1, 8), 1);
        check.due("day", x.day(), 1);
        check.due("game(1, 8)", x.game(1, 8), 2);
        check.due("mark", x.mark(1, 0, 77), 56);
        check.due("seat", x.seat(1, 0, 1), 77);
        check.due("one(0, 4)", x.one(0, 4), 1);
        check.due("one(0, 5)", x.one(0, 5), 56);
        check.due("formBits", x.formBits(0), Float.floatToIntBits(56.75f));
    }

    /** Nothing of a week is left in those told after it, with a fault or without. */
    private static void weekAfterWeek() {
        WhistleRoster x = new WhistleRoster();
        String full = GROUND + "off o 1;rest 0;most 1;fee 7;one p 1 at g no c;game c d at f on 0 0 for 60 grade 1 by 3;"
            + "game c d at f on 0 30 for 60 grade 1 by 3;game c d at f on 0 95 for 60 grade 1 by 3;";
        String plain = "field f;field g;club c;club d;one o 3 at f;one p 1 at g;game c d at f on 0 0 for 20 grade 1;"
            + "game c d at f on 0 30 for 20 grade 1;game c d at f on 0 60 for 20 grade 1;game d c at f on 1 60 for 20 grade 1;";
        for (int round = 0; round < 4; round++) {
            Check.feed(x, full);
            check.due("week()", x.week(), 3);
            check.due("put", x.put(1, 2, 0), 0);
            check.due("most is 1", x.why(0, 0, 0), 8);
            if (round % 2 == 1) {
                Check.feed(x, full + "most 2;field");
                check.due("week()", x.week(), -1);
            }
            isPlain(x, plain);
            if (round > 1) {
                isPlain(x, plain);
            }
        }
    }

    private static void isPlain(WhistleRoster x, String plain) {
        Check.feed(x, plain);
        check.due("week()", x.week(), 4);
        check.due("rest", x.has(4), 10);
        check.due("most", x.has(5), 3);
        check.due("taken", x.has(8), 0);
        check.due("no road", x.way(0, 1), -1);
        check.due("not off", x.one(0, 3), 0);
        check.due("not barred", x.one(1, 2), 0);
        check.due("seats", x.game(1, 7), 1);
        check.due("fee", x.fee(0, 0, 0), 0);
        check.due("puts", x.put(0, 0, 0) + x.put(1, 0, 0) + x.put(2, 0, 0) + x.put(3, 0, 0), 0);
    }
}
