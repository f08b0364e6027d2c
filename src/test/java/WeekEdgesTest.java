import java.util.Arrays;
import java.util.List;

/** Term 1, a sentence at a time: the edges of a week's text, and the fault that stands just beyond each of them. */
public final class WeekEdgesTest {
    private static final Check check = new Check("WeekEdgesTest");
    private static final String[] OWN = {"field", "road", "club", "one", "at", "no", "off", "to", "game", "on", "for",
        "grade", "by", "rest", "most", "fee", "need", "seat", "lasts", "day", "begins", "way", "form"};
    private static final List<String> OF_LAWS =
        Arrays.asList("grade", "need", "seat", "lasts", "day", "begins", "way", "form");
    private static final List<String> BEGIN_LINES =
        Arrays.asList("field", "road", "club", "one", "off", "game", "rest", "most", "fee");
    private static final String GROUND = "field f;field g;field h;road f g 30;club c;club d;one o 3 at f;";
    /** Each LINE, piece by piece: an own word, +x a NAME to be given, =f one that was told, #low:high:fine an N. */
    private static final List<String> LINES = Arrays.asList(
        "field +x", "road =f =h #1:240:9", "club +x",
        "one +x #1:5:3 at =f", "one +x #1:5:3 at =f no =c", "one +x #1:5:3 at =f no =c no =d",
        "off =o #0:6:3", "off =o #0:6:3 to #3:6:6",
        "game =c =d at =g on #0:6:2 #0:1299:700 for #10:140:60 grade #1:5:3",
        "game =c =d at =g on #0:6:2 #0:1299:700 for #10:140:60 grade #1:5:3 by #1:3:2",
        "rest #0:120:15", "most #1:4:2");

    public static void main(String[] args) {
        tapeOfTwelveHundredBytes();
        linesEach();
        linesWhole();
        linesCutOff();
        piecesThatCannotStand();
        numbersAtTheirEdges();
        numbersAreToldAsTheyAre();
        numbersOfOneToFourDigits();
        namesOfOneToSixLetters();
        ownWordsAreNoNames();
        namesUnlikeOnesOfAllSorts();
        namesOfSuchThatWereTold();
        blanks();
        secondIsTheFirstAgain();
        roadsBetweenWhichOneWasTold();
        barredAgain();
        tooMany();
        tooManyAtTheFirstByte();
        daysOff();
        lastOneTold();
        seatsWithoutBy();
        sums();
        openBrackets();
        ownWordsInLaws();
        firstByPlace();
        leastOfOnePlace();
        theEndIsItsLength();
        check.close();
    }

    private static String piece(String told) {
        char first = told.charAt(0);
        return first == '#' ? told.substring(told.lastIndexOf(':') + 1) : first == '+' || first == '=' ? told.substring(1) : told;
    }

    /** The first pieces of a LINE as they are told, a blank behind each. */
    private static String first(String[] pieces, int many) {
        StringBuilder text = new StringBuilder();
        for (int i = 0; i < many; i++) {
            text.append(piece(pieces[i])).append(' ');
        }
        return text.toString();
    }

    private static String behind(String[] pieces, int from) {
        StringBuilder text = new StringBuilder();
        for (int i = from; i < pieces.length; i++) {
            text.append(' ').append(piece(pieces[i]));
        }
        return text.toString();
    }

    private static int games(String line) {
        return line.startsWith("game") ? 1 : 0;
    }

    private static boolean isWhole(String[] pieces, int many) {
        return LINES.contains(String.join(" ", Arrays.copyOf(pieces, many)));
    }

    // "a TEXT on THE TAPE (1,200 bytes)"
    private static void tapeOfTwelveHundredBytes() {
        String blanks = " ".repeat(1200);
        check.fine(blanks, 0);
        check.fine(blanks.substring(8) + "field f;", 0);
        check.fine("field f;" + blanks.substring(8), 0);
        check.fault(1, blanks.substring(7) + "field f^");
        check.fault(1, "field f" + blanks.substring(7) + "^");
        check.fault(1, blanks.substring(1) + "^;");
        check.fault(1, blanks.substring(8) + "field f^,");
        check.fault(3, "field f;" + blanks.substring(16) + "field ^f;");
        check.fault(1, "field ^" + "a".repeat(1194));
        check.fault(1, "rest ^" + "9".repeat(1195));
        check.fine("fee " + "1+".repeat(597) + "1;", 0);
        check.fine("rest 1;".repeat(171), 0);
        check.fine(" ".repeat(1199) + "\n", 0);
    }

    // "{ LINE ";" }"
    private static void linesEach() {
        check.fine("", 0);
        check.fine("field f;", 0);
        check.fault(1, "field f^");
        check.fault(1, "^;");
        check.fault(1, "field f;^;");
        check.fault(1, "field f ^");
        check.fault(1, "field f ^field g;");
        check.fault(1, "field f;field g^");
    }

    private static void linesWhole() {
        for (String line : LINES) {
            String[] pieces = line.split(" ");
            String plain = first(pieces, pieces.length);
            check.fine(GROUND + plain + ";", games(line));
            check.fine(GROUND + " \n " + plain.replace(" ", "\n \n") + "\n;\n", games(line));
            StringBuilder dense = new StringBuilder();
            for (String each : pieces) {
                char last = dense.length() == 0 ? ';' : dense.charAt(dense.length() - 1);
                boolean apart = Character.isDigit(last) && Character.isDigit(piece(each).charAt(0))
                    || Character.isLetter(last) && Character.isLetter(piece(each).charAt(0));
                dense.append(apart ? " " : "").append(piece(each));
            }
            check.fine(GROUND + dense + ";", games(line));
        }
    }

    private static void linesCutOff() {
        for (String line : LINES) {
            String[] pieces = line.split(" ");
            for (int k = 1; k < pieces.length; k++) {
                String cut = GROUND + first(pieces, k);
                check.fault(1, cut + "^");
                check.fault(1, cut.trim() + "^");
                if (isWhole(pieces, k)) {
                    check.fine(cut + ";", games(line));
                } else {
                    check.fault(1, cut + "^;");
                    check.fault(1, cut.trim() + "^;" + GROUND);
                }
            }
            check.fault(1, GROUND + first(pieces, pieces.length) + "^");
        }
    }

    // "1 what can't stand there", at each piece of each LINE and behind it
    private static void piecesThatCannotStand() {
        String[] never = {",", ":", "(", ")", "+", "-", "*", "/", "A", "Z", "`", "{", "_", "\t", "\r", "\u0000", "\u00ff",
            "\u00a0", "\u0080", ".", "12345", "00001", "99999999999", "abcdefg", "abcdefghijklmnopqrstuvwxyz"};
        for (String line : LINES) {
            String[] pieces = line.split(" ");
            for (int k = 0; k <= pieces.length; k++) {
                String ahead = GROUND + first(pieces, k) + "^";
                String then = behind(pieces, Math.min(k + 1, pieces.length)) + ";";
                String asked = k < pieces.length ? pieces[k] : ";";
                for (String each : never) {
                    check.fault(1, ahead + each + then);
                }
                for (String own : OWN) {
                    if (!mayStand(own, asked, line, k)) {
                        check.fault(1, ahead + own + then);
                    }
                }
                if (!isWhole(pieces, k) && k < pieces.length) {
                    check.fault(1, ahead + ";" + then);
                }
                if (asked.charAt(0) != '#') {
                    check.fault(1, ahead + "7" + then);
                }
                foreignNames(ahead, asked, then);
            }
        }
    }

    private static boolean mayStand(String own, String asked, String line, int k) {
        if (k == 0) {
            return BEGIN_LINES.contains(own);
        }
        boolean goesOn = line.startsWith("one") && own.equals("no") || line.equals(LINES.get(6)) && own.equals("to")
            || line.equals(LINES.get(8)) && own.equals("by");
        return own.equals(asked) || asked.equals(";") && goesOn;
    }

    private static void foreignNames(String ahead, String asked, String then) {
        char kind = asked.charAt(0);
        for (String name : new String[] {"f", "c", "o", "zz"}) {
            boolean isNew = name.equals("zz");
            boolean isAsked = asked.length() == 2 && "fgh".contains(asked.substring(1)) == name.equals("f")
                && "cd".contains(asked.substring(1)) == name.equals("c") && asked.endsWith("o") == name.equals("o");
            if (kind == '+' && !isNew || kind == '=' && (isNew || !isAsked)) {
                check.fault(3, ahead + name + then);
            } else if (kind != '+' && kind != '=') {
                check.fault(1, ahead + name + then);
            }
        }
    }

    // "2 an N that can't be (at it)"
    private static void numbersAtTheirEdges() {
        for (String line : LINES) {
            String[] pieces = line.split(" ");
            for (int k = 0; k < pieces.length; k++) {
                if (pieces[k].charAt(0) == '#') {
                    String[] told = pieces[k].substring(1).split(":");
                    int low = Integer.parseInt(told[0]);
                    int high = Integer.parseInt(told[1]);
                    String ahead = GROUND + first(pieces, k);
                    String then = behind(pieces, k + 1) + ";";
                    check.fine(ahead + low + then, games(line));
                    check.fine(ahead + high + then, games(line));
                    check.fine(ahead + String.format("%04d", low) + then, games(line));
                    check.fine(ahead + String.format("%04d", high) + then, games(line));
                    check.fault(1, ahead + "^" + String.format("%05d", high) + then);
                    check.fault(2, ahead + "^" + (high + 1) + then);
                    check.fault(2, ahead + "^9999" + then);
                    if (low > 0) {
                        check.fault(2, ahead + "^" + (low - 1) + then);
                        check.fault(2, ahead + "^0" + then);
                        check.fault(2, ahead + "^0000" + then);
                    }
                }
            }
        }
    }

    private static void numbersAreToldAsTheyAre() {
        String ground = "field f;field g;club c;club d;";
        for (int n : new int[] {1, 2, 239, 240}) {
            check.due("road of " + n, Check.of(ground + "road f g " + n + ";").way(1, 0), n);
        }
        for (int n = 1; n <= 5; n++) {
            check.due("GRADE " + n, Check.of(ground + "one o " + n + " at g;").one(0, 0), n);
            check.due("HOME", Check.of(ground + "one o " + n + " at g;").one(0, 1), 1);
            check.due("GRADE of a GAME " + n, Check.of(ground + "game c d at g on 0 0 for 10 grade " + n + ";").game(0, 6), n);
        }
        for (int n = 0; n <= 6; n++) {
            check.due("DAY " + n, Check.of(ground + "game c d at g on " + n + " 0 for 10 grade 1;").game(0, 3), n);
        }
        for (int n : new int[] {0, 1, 1298, 1299}) {
            check.due("begins " + n, Check.of(ground + "game c d at g on 0 " + n + " for 10 grade 1;").game(0, 4), n);
        }
        for (int n : new int[] {10, 11, 139, 140}) {
            check.due("lasts " + n, Check.of(ground + "game c d at g on 0 0 for " + n + " grade 1;").game(0, 5), n);
        }
        for (int n = 1; n <= 3; n++) {
            WhistleRoster x = Check.of(ground + "game c d at g on 0 0 for 10 grade 1 by " + n + ";");
            check.due("SEATS " + n, x.game(0, 7), n);
            check.due("the last SEAT", x.seat(0, n - 1, 0), -1);
            check.due("one more", x.seat(0, n, 0), -2);
        }
        for (int n : new int[] {0, 1, 119, 120}) {
            check.due("REST " + n, Check.of("rest " + n + ";").has(4), n);
        }
        for (int n = 1; n <= 4; n++) {
            check.due("MOST " + n, Check.of("most " + n + ";").has(5), n);
        }
    }

    // "N: 1 to 4 digits that stand together"
    private static void numbersOfOneToFourDigits() {
        check.due("1 digit", Check.of("rest 7;").has(4), 7);
        check.due("2 digits", Check.of("rest 77;").has(4), 77);
        check.due("3 digits", Check.of("rest 107;").has(4), 107);
        check.due("4 digits", Check.of("rest 0107;").has(4), 107);
        check.fault(1, "rest ^00107;");
        check.fault(1, "rest ^10000;");
        check.fault(1, "rest ^4294967303;");
        check.fault(1, "rest ^18446744073709551617;");
        check.fault(1, "rest 1 ^2;");
        check.fault(1, "rest 1\n^2;");
        check.fault(1, "rest 1^a;");
        check.fault(1, "rest ^-1;");
        check.fault(1, "rest ^+1;");
        check.fault(1, GROUND + "game c d at f on 0 ^12345 for 10 grade 1;");
        check.fault(1, GROUND + "game c d at f on 00 ^for 10 grade 1;");
    }

    // "NAMES: 1 to 6 small letters that stand together"
    private static void namesOfOneToSixLetters() {
        for (String name : new String[] {"a", "z", "ab", "abc", "abcd", "abcde", "abcdef", "zzzzzz"}) {
            WhistleRoster x = Check.of("field " + name + ";");
            check.due("the last letter of " + name, x.letter(0, 0, name.length() - 1), name.charAt(name.length() - 1) - 'a');
            check.due("one more", x.letter(0, 0, name.length()), -1);
        }
        check.fault(1, "field ^abcdefg;");
        check.fault(1, "club ^zzzzzzz;");
        check.fault(1, "field f;one ^abcdefg 3 at f;");
        check.fault(1, "field abcdef;one o 3 at ^abcdefa;");
        check.fault(1, "field abcdef;one o 3 at ^aabcdef;");
        check.fault(1, "field ab ^cd;");
        check.fault(1, "field ab\n^cd;");
        check.fault(1, "field a^B;");
        check.fault(1, "field ^Ab;");
        check.fault(1, "field a^1;");
        check.fault(1, "field ^1a;");
        check.fault(1, "field a^_;");
        check.fault(1, "field a^\u00e9;");
        // letters beyond what an int holds are no own word, nor a name, by chance
        check.fault(1, "^abcdefghijklmn a;");
        check.fault(1, "field ^" + "aaaaaaaaaaaaaaaaaaaaaaaaaaaaaaaa;");
    }

    // "none of the OWN WORDS (all in quotes here)"
    private static void ownWordsAreNoNames() {
        for (String own : OWN) {
            check.fault(1, "field ^" + own + ";");
            check.fault(1, "club ^" + own + ";");
            check.fault(1, "field f;one ^" + own + " 3 at f;");
            check.fault(1, "field f;road f ^" + own + " 3;");
            check.fault(1, "field f;road ^" + own + " f 3;");
            check.fault(1, "field f;one o 3 at ^" + own + ";");
            check.fault(1, GROUND + "off ^" + own + " 3;");
            check.fault(1, GROUND + "game ^" + own + " c at f on 0 0 for 10 grade 1;");
            check.fault(1, GROUND + "one p 3 at f no ^" + own + ";");
            if (own.length() < 6) {
                check.fine("field " + own + "x;", 0);
                check.fine("field x" + own + ";", 0);
            }
            check.fine("field " + own.charAt(0) + ";", 0);
        }
        for (String text : new String[] {"blanks", "sum", "term", "atom", "word", "n", "name", "line", "week", "without"}) {
            if (text.length() <= 6) {
                check.fine("field " + text + ";", 0);
            }
        }
    }

    // "unlike ones, of all sorts"
    private static void namesUnlikeOnesOfAllSorts() {
        String[] sorts = {"field %sx;", "club %sx;", "one %sx 3 at h;"};
        for (String given : sorts) {
            for (String again : sorts) {
                check.fault(3, "field h;" + String.format(given, "") + String.format(again, "^"));
            }
        }
        check.fine("field a;field aa;field ab;field b;club ba;club aaa;one aab 1 at a;one baa 1 at a;", 0);
        check.fault(3, "field abcdef;field abcdee;club ^abcdef;");
    }

    // "FIELD, CLUB, ONE: NAMES of such that were told"
    private static void namesOfSuchThatWereTold() {
        check.fault(3, "road ^f g 3;field f;field g;");
        check.fault(3, "field f;road f ^g 3;field g;");
        check.fault(3, "one o 3 at ^f;field f;");
        check.fault(3, "field f;one o 3 at f no ^c;club c;");
        check.fault(3, "off ^o 3;field f;one o 3 at f;");
        check.fault(3, "field f;club c;game c ^d at f on 0 0 for 10 grade 1;club d;");
        check.fault(3, "club c;club d;game c d at ^f on 0 0 for 10 grade 1;field f;");
        check.fault(3, "field f;one o 3 at ^o;");
        check.fault(3, "field f;field fa;road f ^fb 3;");
        // of an earlier WEEK nothing was told
        WhistleRoster x = Check.of(GROUND);
        Check.feed(x, "road f g 3;");
        check.due("week()", x.week(), -1);
        check.due("fault(0)", x.fault(0), 3);
        check.due("fault(1)", x.fault(1), 5);
    }

    // "Blanks (32, 10) where one likes"
    private static void blanks() {
        check.fine(" ", 0);
        check.fine("\n", 0);
        check.fine("\n \n  field\n\nf \n ; \n", 0);
        check.fine("fee(grade+1)*2 ;rest5;most4;", 0);
        for (int b = 0; b < 256; b++) {
            boolean isBlank = b == 32 || b == 10;
            if (!isBlank) {
                check.fault(1, "^" + (char) b + ";");
            }
            if (!isBlank && b != ';') {
                check.fault(1, "field f" + (b >= 'a' && b <= 'z' ? " " : "") + "^" + (char) b);
            }
        }
        for (int b : new int[] {0, 9, 11, 12, 13, 31, 33, 127, 128, 138, 160, 255}) {
            check.fault(1, "field^" + (char) b + "f;");
            check.fault(1, "field f;^" + (char) b);
            check.fault(1, "^" + (char) b + "field f;");
        }
    }

    // "the second of two FIELDS or CLUBS of a LINE that is the first again"
    private static void secondIsTheFirstAgain() {
        check.fault(3, GROUND + "road f ^f 3;");
        check.fault(3, GROUND + "road h ^h 0;");
        check.fault(3, GROUND + "road f ^f");
        check.fault(3, GROUND + "game c ^c at f on 0 0 for 10 grade 1;");
        check.fault(3, GROUND + "game d   ^d at f on 9 0 for 10 grade 1;");
        check.fault(3, GROUND + "game d ^d");
        check.fine(GROUND + "game d c at f on 0 0 for 10 grade 1;game c d at f on 0 0 for 10 grade 1;", 2);
    }

    // "of a road, between which one was told"
    private static void roadsBetweenWhichOneWasTold() {
        check.fault(3, GROUND + "road f ^g 30;");
        check.fault(3, GROUND + "road g  ^f 30;");
        check.fault(3, GROUND + "road g ^f");
        check.fine(GROUND + "road g h 30;road h f 30;", 0);
        check.fault(3, GROUND + "road g h 30;road h f 30;road h ^g 1;");
        // a road of an earlier WEEK is none
        WhistleRoster x = Check.of(GROUND);
        for (int i = 0; i < 3; i++) {
            Check.feed(x, GROUND);
            check.due("told anew", x.week(), 0);
        }
    }

    // "a CLUB told BARRED again (at it)"
    private static void barredAgain() {
        check.fault(3, GROUND + "one p 3 at f no c no ^c;");
        check.fault(3, GROUND + "one p 3 at f no c no d no ^c");
        check.fault(3, GROUND + "one p 3 at f no d no  ^d no c;");
        check.fine(GROUND + "one p 3 at f no d no c;one q 3 at f no c no d;", 0);
        check.due("BARRED", Check.of(GROUND + "one p 3 at f no d;").one(1, 2), 2);
        StringBuilder text = new StringBuilder("field f;");
        StringBuilder no = new StringBuilder();
        for (char c = 'q'; c < 'q' + 8; c++) {
            text.append("club ").append(c).append(';');
            no.append(" no ").append(c);
        }
        check.due("all BARRED", Check.of(text + "one o 3 at f" + no + ";").one(0, 2), 255);
        check.fault(3, text + "one o 3 at f" + no + " no ^x;");
        check.fault(3, text + "one o 3 at f" + no + " no ^q;");
        check.due("none BARRED", Check.of(text + "one o 3 at f" + no + ";one p 3 at f;").one(1, 2), 0);
    }

    private static String many(String form, int n) {
        StringBuilder text = new StringBuilder();
        for (int i = 0; i < n; i++) {
            text.append(String.format(form, "z" + (char) ('a' + i)));
        }
        return text.toString();
    }

    // "FIELDS (6), CLUBS (8), OFFICIALS (10), GAMES (16 at most) are numbered from 0 on"
    private static void tooMany() {
        String game = "game c d at f on 0 0 for 10 grade 1;";
        check.due("6 FIELDS", Check.of(many("field %s;", 6)).has(0), 6);
        check.fault(4, many("field %s;", 6) + "^field f;");
        check.due("8 CLUBS", Check.of(many("club %s;", 8)).has(1), 8);
        check.fault(4, many("club %s;", 8) + "^club f;");
        check.due("10 OFFICIALS", Check.of("field f;" + many("one %s 1 at f;", 10)).has(2), 10);
        check.fault(4, "field f;" + many("one %s 1 at f;", 10) + "^one o 1 at f;");
        check.due("16 GAMES", Check.of(GROUND + game.repeat(16)).has(3), 16);
        check.fault(4, GROUND + game.repeat(16) + "^" + game);
        check.fine("fee 1;", 0);
        check.fault(4, "fee 1;^fee 1;");
        WhistleRoster x = Check.of(many("field %s;", 6) + many("club x%s;", 8) + many("one y%s 1 at zf;", 10));
        for (int i = 0; i < 10; i++) {
            check.due("FIELD " + i, x.letter(0, i, 1), i < 6 ? i : -1);
            check.due("CLUB " + i, x.letter(1, i, 2), i < 8 ? i : -1);
            check.due("OFFICIAL " + i, x.letter(2, i, 2), i);
        }
        check.due("no 11th", x.letter(2, 10, 0), -1);
        // all at once, and again as often as one likes
        String full = many("field %s;", 6) + many("club x%s;", 8) + many("one y%s 1 at zf;", 10)
            + "game xza xzh at zf on 6 0 for 10 grade 1;".repeat(16) + "fee 1;";
        check.fine(full, 16);
        for (int i = 0; i < 3; i++) {
            Check.feed(x, full);
            check.due("full anew", x.week(), 16);
        }
    }

    // "(at its first byte)": of the LINE, ahead of whatever else is wrong in it
    private static void tooManyAtTheFirstByte() {
        String game = "game c d at f on 0 0 for 10 grade 1;";
        String[] full = {many("field %s;", 6), many("club %s;", 8), "field f;" + many("one %s 1 at f;", 10),
            GROUND + game.repeat(16), "fee 1;"};
        String[] words = {"field", "club", "one", "game", "fee"};
        for (int i = 0; i < full.length; i++) {
            check.fault(4, full[i] + "^" + words[i]);
            check.fault(4, full[i] + " \n ^" + words[i] + " ;");
            check.fault(4, full[i] + "^" + words[i] + " za 9 at;");
            check.fault(4, full[i] + "^" + words[i] + " abcdefg;");
            check.fault(4, full[i] + "^" + words[i] + "(((((1");
            check.fault(4, full[i] + "rest 1;^" + words[i] + " 12345;");
            check.fault(1, full[i] + "^" + words[i] + "x;");
            check.fault(1, full[i] + "^;" + words[i] + ";");
        }
        // a LINE that has a FAULT of its own ahead of them is the first
        check.fault(2, "rest ^121;" + full[0] + "field f;");
    }

    // "off: an OFFICIAL is off on DAYS N to N (without "to" on one DAY; the second not below the first)"
    private static void daysOff() {
        for (int a = 0; a < 7; a++) {
            check.due("one DAY", Check.of(GROUND + "off o " + a + ";").one(0, 3), 1 << a);
            for (int b = 0; b < 7; b++) {
                if (b >= a) {
                    check.due(a + " to " + b, Check.of(GROUND + "off o " + a + " to " + b + ";").one(0, 3), (2 << b) - (1 << a));
                } else {
                    check.fault(2, GROUND + "off o " + a + " to ^" + b + ";");
                }
            }
        }
        check.fault(2, GROUND + "off o ^7 to 6;");
        check.due("all together", Check.of(GROUND + "off o 6;off o 0 to 1;off o 1 to 2;off o 6;").one(0, 3), 71);
        WhistleRoster x = Check.of(GROUND + "one p 3 at f;off p 3;");
        check.due("of another one", x.one(0, 3), 0);
        check.due("of that one", x.one(1, 3), 8);
    }

    // "rest: REST (10 without), most: MOST (3 without): the last one told"
    private static void lastOneTold() {
        check.due("REST without", Check.of("most 1;").has(4), 10);
        check.due("MOST without", Check.of("rest 1;").has(5), 3);
        check.due("REST", Check.of("rest 1;rest 120;rest 2;").has(4), 2);
        check.due("MOST", Check.of("most 1;most 4;most 2;").has(5), 2);
        check.due("REST after a GAME", Check.of(GROUND + "rest 3;game c d at f on 0 0 for 10 grade 1;rest 4;").has(4), 4);
        // REST told behind the GAMES holds for them too
        WhistleRoster x = Check.of(GROUND + "game c d at f on 0 0 for 10 grade 1;game c d at f on 0 30 for 10 grade 1;rest 21;rest 20;");
        check.due("put", x.put(0, 0, 0), 0);
        check.due("why", x.why(1, 0, 0), 0);
        x = Check.of(GROUND + "game c d at f on 0 0 for 10 grade 1;game c d at f on 0 30 for 10 grade 1;rest 20;rest 21;");
        check.due("put", x.put(0, 0, 0), 0);
        check.due("why", x.why(1, 0, 0), 10);
        // a road told behind them holds for them too
        x = Check.of(GROUND + "game c d at h on 0 0 for 10 grade 1;road h g 1;");
        check.due("why", x.why(0, 0, 0), 0);
    }

    // "by N SEATS (1 .. 3; 1 without), numbered from 0 on"
    private static void seatsWithoutBy() {
        WhistleRoster x = Check.of(GROUND + "game c d at f on 0 0 for 10 grade 1 by 3;game c d at f on 0 0 for 10 grade 1;");
        check.due("SEATS", x.game(1, 7), 1);
        check.due("SEAT 0", x.seat(1, 0, 0), -1);
        check.due("SEAT 1", x.seat(1, 1, 0), -2);
        check.due("SEATS of all", x.has(7), 4);
        check.due("OFFICIALS without CLUBS told BARRED", x.one(0, 2), 0);
    }

    private static long fee(String law) {
        return Check.of(GROUND + "game c d at g on 1 700 for 60 grade 5 by 3;fee " + law + ";").fee(0, 2, 0);
    }

    // "SUM: TERM { ( "+" | "-" ) TERM }. TERM: ATOM { ( "*" | "/" ) ATOM }. ATOM: N | WORD | "(" SUM ")""
    private static void sums() {
        check.due("an N", fee("0"), 0);
        check.due("an N", fee("9999"), 9999);
        check.due("an N", fee("0012"), 12);
        check.due("a WORD", fee("lasts"), 60);
        check.due("a SUM in an ATOM", fee("(lasts)"), 60);
        check.due("from left to right", fee("9-3-2+1"), 5);
        check.due("from left to right", fee("100/7*7/2"), 49);
        check.due("TERMS first", fee("2+3*4-6/2"), 11);
        check.due("brackets first", fee("(2+3)*(4-6)/2"), -5);
        for (String law : new String[] {"^", "^+1", "^-1", "^*1", "1+^", "1-^", "1*^", "1/^", "1+^+1", "1*^-1", "(^)", "(1^",
            "(1+^)", "1^)", "1 ^1", "1 ^seat", "seat ^seat", "seat^(1)", "(1)^(1)", "^f", "^o", "^at", "1^,", "^12345",
            "1+^00000", "1+(2*(^))", "((1)^", "^abcdefg"}) {
            check.fault(1, "field f;one o 3 at f;fee " + law + ";");
            check.fault(1, "field f;one o 3 at f;fee " + law);
        }
        check.fault(1, "fee 1^");
        check.fault(1, "fee ((1)+2)^");
    }

    // "5 the 5th "(" that is open (at it)"
    private static void openBrackets() {
        check.due("4 are open", fee("((((7))))"), 7);
        check.due("4 are open again and again", fee("((((7))))*((((seat))))-(((1+(2))))"), 11);
        check.due("closed, and open again", fee("(1+(2+(3+(4)+(5))+(6+(7)))+(8))"), 36);
        check.fault(5, "fee ((((^(7)))));");
        check.fault(5, "fee ((((^(");
        check.fault(5, "fee ((((1)))+(((^(1)))));");
        check.fault(5, "fee (1+(2+(3+(4)+(5+^(6)))));");
        check.fault(5, "fee 1*(1*(1*(1*(1*^(1");
        check.fault(1, "fee ((((^)");
        check.fault(1, "fee ((((1))))^);");
    }

    // "letters that are no word that can stand there", of a law
    private static void ownWordsInLaws() {
        for (String own : OWN) {
            if (OF_LAWS.contains(own)) {
                check.fine("fee " + own + ";", 0);
                check.fine("fee 1+(" + own + "*" + own + ");", 0);
            } else {
                check.fault(1, "fee ^" + own + ";");
                check.fault(1, "fee 1+^" + own + ";");
                check.fault(1, "fee (^" + own + ");");
            }
            check.fault(1, "fee 1 ^" + own + ";");
            check.fault(1, "fee ^" + own + "x;");
        }
    }

    // "the first by its place"
    private static void firstByPlace() {
        check.fault(1, "^a;rest 121;field f;field f;");
        check.fault(2, "rest ^121;a;");
        check.fault(3, "field f;field ^f;rest 121;a;");
        check.fault(4, "fee 1;^fee ((((((;a;");
        check.fault(5, "fee ((((^(;rest 121;");
        check.fault(2, GROUND + "one p ^6 at zz no zz;");
        check.fault(3, GROUND + "one ^o 6 at zz no zz;");
        check.fault(1, GROUND + "one p 3 ^, zz;");
        check.fault(3, GROUND + "road ^zz zy 0;");
        check.fault(3, GROUND + "road f ^zy 0;");
        check.fault(2, GROUND + "road f h ^0,");
        check.fault(2, GROUND + "off o ^7 to 8;");
        check.fault(2, GROUND + "off o 6 to ^5,");
        check.fault(2, GROUND + "game c d at f on ^7 1300 for 9 grade 0 by 4;");
        check.fault(2, GROUND + "game c d at f on 6 ^1300 for 9 grade 0 by 4;");
        check.fault(2, GROUND + "game c d at f on 6 1299 for ^9 grade 0 by 4;");
        check.fault(2, GROUND + "game c d at f on 6 1299 for 10 grade ^0 by 4;");
        check.fault(2, GROUND + "game c d at f on 6 1299 for 10 grade 1 by ^4");
    }

    // "of one place the least number"
    private static void leastOfOnePlace() {
        check.fault(1, "rest ^12345;");
        check.fault(1, GROUND + "road f ^abcdefg 3;");
        check.fault(1, GROUND + "road f ^road 3;");
        check.fault(1, GROUND + "field ^fieldss;");
        check.fault(1, "fee ((((1^(1)))));");
        check.fault(1, "fee ((((seat^(1)))));");
        check.fault(1, "fee ((((1)^(1)))));");
    }

    // "from 0; the end: its length"
    private static void theEndIsItsLength() {
        check.fault(1, "^,");
        check.fault(1, "field^");
        check.fault(1, "field ^");
        check.fault(1, "field f^");
        check.fault(1, "field f \n ^");
        check.fault(1, "fee (1+^");
        check.fault(1, "field f;one o 3^");
        check.fault(1, "field f;one o 3 ^");
        // behind end(n) there is nothing, whatever was there
        WhistleRoster x = new WhistleRoster();
        Check.feed(x, "field f;field f;");
        check.due("end", x.end(15), true);
        check.due("week()", x.week(), -1);
        check.due("fault(0)", x.fault(0), 3);
        Check.feed(x, "field f;field f;");
        check.due("end", x.end(14), true);
        check.due("week()", x.week(), -1);
        check.due("fault(0)", x.fault(0), 1);
        check.due("fault(1)", x.fault(1), 14);
        Check.feed(x, "field f;field f;");
        check.due("end", x.end(8), true);
        check.due("week()", x.week(), 0);
        check.due("FIELDS", x.has(0), 1);
    }
}
