import java.util.NoSuchElementException;

/** Officials of a week of games: who may sit where, whom it takes least out of the way, and what is thought of them. */
public final class WhistleRoster {
    public static final int NONE = -1;

    private static final int FIELDS = 0;
    private static final int CLUBS = 1;
    private static final int OFFICIALS = 2;
    private static final int MOST_GAMES = 16;
    private static final int MOST_SEATS = 3;
    private static final int DAYS = 7;
    private static final int KEPT = 8;
    private static final long UNTOLD = -9223372036854775808L;

    private final Tape tape;
    private final Reader reader;
    private Week told;
    private Week draft;
    private final Roster now;
    private final Roster before;
    private final Desk desk;
    private final Roster[] past;
    private int oldest;
    private int kept;
    private final Shelf[] shelves;

    public WhistleRoster() {
        tape = new Tape();
        reader = new Reader(tape);
        told = new Week();
        draft = new Week();
        now = new Roster(told);
        before = new Roster(told);
        desk = new Desk(now);
        past = new Roster[KEPT];
        for (int i = 0; i < KEPT; i++) {
            past[i] = new Roster(told);
        }
        shelves = new Shelf[] {new Shelf(), new Shelf(), new Shelf()};
    }

    // ---- the tape and the week ----

    public int feed(int a, int b, int c, int d, int e) {
        if (tape.length + 20 > Tape.ROOM) {
            return NONE;
        }
        tape.append(a);
        tape.append(b);
        tape.append(c);
        tape.append(d);
        tape.append(e);
        return tape.length;
    }

    public boolean end(int n) {
        if (n < 0 || n > tape.length) {
            return false;
        }
        tape.length = n;
        return true;
    }

    public int week() {
        boolean fine = reader.readWeek(draft);
        tape.length = 0;
        if (!fine) {
            return NONE;
        }
        Week other = told;
        told = draft;
        draft = other;
        now.open(told);
        kept = 0;
        return told.gameCount;
    }

    public int fault(int what) {
        switch (what) {
            case 0: return reader.fault;
            case 1: return reader.place;
            default: return NONE;
        }
    }

    public int has(int what) {
        switch (what) {
            case 0: return told.counts[FIELDS];
            case 1: return told.counts[CLUBS];
            case 2: return told.counts[OFFICIALS];
            case 3: return told.gameCount;
            case 4: return told.rest;
            case 5: return told.most;
            case 6: return now.today;
            case 7: return told.seatCount();
            case 8: return now.takenCount();
            case 9: return kept;
            case 10: return tape.length;
            default: return -2;
        }
    }

    public int letter(int sort, int which, int i) {
        if (sort < FIELDS || sort > OFFICIALS || !told.isNamed(sort, which)) {
            return NONE;
        }
        return Tape.letterOf(told.names[sort][which], i);
    }

    public int one(int official, int what) {
        if (!told.isNamed(OFFICIALS, official)) {
            return -2;
        }
        switch (what) {
            case 0: return now.grade[official];
            case 1: return told.home[official];
            case 2: return told.barred[official];
            case 3: return told.off[official];
            case 4: return now.marks[official];
            case 5: return (int) now.form[official];
            case 6: return Integer.bitCount(now.held[official]);
            default: return -2;
        }
    }

    public int formBits(int official) {
        return told.isNamed(OFFICIALS, official) ? now.bitsOfForm(official) : NONE;
    }

    public int game(int game, int what) {
        if (!told.isGame(game)) {
            return NONE;
        }
        Game g = told.games[game];
        switch (what) {
            case 0: return g.first;
            case 1: return g.second;
            case 2: return g.field;
            case 3: return g.day;
            case 4: return g.begins;
            case 5: return g.lasts;
            case 6: return g.grade;
            case 7: return g.seats;
            case 8: return now.isPlayed(game) ? 2 : now.isLate(game) ? 1 : 0;
            default: return NONE;
        }
    }

    public int seat(int game, int seat, int what) {
        if (!told.isSeat(game, seat)) {
            return -2;
        }
        int place = Week.placeOf(game, seat);
        switch (what) {
            case 0: return now.holder[place];
            case 1: return now.marked[place];
            default: return -2;
        }
    }

    // ---- ways ----

    public int way(int from, int to) {
        return told.areFields(from, to) ? told.roads.least[from][to] : NONE;
    }

    public int toward(int from, int to) {
        return told.areFields(from, to) ? told.roads.firstOn(from, to) : NONE;
    }

    public int hub() {
        return told.roads.middle();
    }

    // ---- one seat ----

    public int why(int game, int seat, int official) {
        return now.reason(game, seat, official);
    }

    public int put(int game, int seat, int official) {
        int reason = now.reason(game, seat, official);
        if (reason != 1 && reason != 2 && now.isLate(game)) {
            return -12;
        }
        if (reason != 0) {
            return -reason;
        }
        keep(now);
        now.sit(game, seat, official);
        return 0;
    }

    public int drop(int game, int seat) {
        if (!told.isSeat(game, seat) || now.isPlayed(game) || now.isLate(game)) {
            return -2;
        }
        int official = now.holder[Week.placeOf(game, seat)];
        if (official == NONE) {
            return -2;
        }
        keep(now);
        now.rise(game, seat);
        return official;
    }

    public int swap(int game, int seat, int other, int place) {
        int answer = now.exchangeable(game, seat, other, place);
        if (answer == 0) {
            keep(now);
            now.trade(game, seat, other, place);
        }
        return answer;
    }

    public int could(int game, int seat, int other, int place) {
        return now.exchangeable(game, seat, other, place);
    }

    public int able(int game, int seat) {
        if (!told.isSeat(game, seat)) {
            return NONE;
        }
        int bits = 0;
        for (int o = 0; o < told.counts[OFFICIALS]; o++) {
            if (now.reason(game, seat, o) == 0) {
                bits |= 1 << o;
            }
        }
        return bits;
    }

    public int best(int game, int seat) {
        return desk.nearest(game, seat);
    }

    public int extra(int game, int seat, int official) {
        if (!told.isSeat(game, seat) || !told.isNamed(OFFICIALS, official)) {
            return NONE;
        }
        return now.detour(game, seat, official);
    }

    public long fee(int game, int seat, int official) {
        if (!told.isSeat(game, seat) || !told.isNamed(OFFICIALS, official)) {
            return UNTOLD;
        }
        return now.pay(game, seat, official);
    }

    public long fees(int official) {
        if (official != NONE && !told.isNamed(OFFICIALS, official)) {
            return UNTOLD;
        }
        return now.payOfAll(official);
    }

    // ---- many seats ----

    public int crew(int game, int what) {
        if (!told.isGame(game) || what < 0 || what > told.games[game].seats) {
            return NONE;
        }
        return desk.findCrew(game, what);
    }

    public int fill() {
        before.copyOf(now);
        int filled = desk.fillAll();
        if (filled > 0) {
            keep(before);
        }
        return filled;
    }

    public int steps(int game, int seat, int what) {
        if (what < 0 || what > 4 || !told.isSeat(game, seat) || now.isPlayed(game)) {
            return NONE;
        }
        return desk.findStep(game, seat, what);
    }

    public int unsound(int i) {
        return now.unsoundPlace(i);
    }

    public int exchange(int what) {
        return what < 0 || what > 4 ? -2 : desk.findExchange(what);
    }

    public int round(int official, int day) {
        if (!told.isNamed(OFFICIALS, official) || day < 0 || day >= DAYS) {
            return NONE;
        }
        return now.roundOn(official, now.held[official], day);
    }

    public int trip(int official, int day, int what) {
        if (!told.isNamed(OFFICIALS, official) || day < 0 || day >= DAYS) {
            return -10000;
        }
        return now.journey(official, day, what);
    }

    public int spread(int what) {
        return now.spreadOfSeats(what);
    }

    // ---- days, marks, promotion ----

    public int day() {
        if (now.today >= DAYS) {
            return NONE;
        }
        keep(now);
        now.today++;
        return now.today;
    }

    public int play(int seed) {
        if (now.today >= DAYS) {
            return NONE;
        }
        keep(now);
        return now.playDay(seed);
    }

    public int mark(int game, int seat, int m) {
        if (!now.isMarkable(game, seat) || m < 0 || m > 100) {
            return NONE;
        }
        keep(now);
        int place = Week.placeOf(game, seat);
        now.giveMark(place, m);
        return (int) now.form[now.holder[place]];
    }

    public int review(int up, int down) {
        if (up < 0 || up > 9 || down < 0 || down > 9) {
            return NONE;
        }
        keep(now);
        return now.promote(up, down);
    }

    public int rank(int i) {
        if (!told.isNamed(OFFICIALS, i)) {
            return NONE;
        }
        now.sortByForm();
        return now.ranked[i];
    }

    public int undo() {
        if (kept <= 0) {
            return NONE;
        }
        kept--;
        now.copyOf(past[(oldest + kept) % KEPT]);
        return kept;
    }

    private void keep(Roster ahead) {
        if (kept == KEPT) {
            oldest = (oldest + 1) % KEPT;
            kept--;
        }
        past[(oldest + kept) % KEPT].copyOf(ahead);
        kept++;
    }

    // ---- shelves ----

    public int shelf(int shelf, int sort, int many) throws NoSuchElementException, IllegalArgumentException {
        if (!isShelf(shelf)) {
            throw new NoSuchElementException("no such shelf");
        }
        if (sort < 0 || sort > 1 || many < 0 || many > Shelf.ROOM) {
            throw new IllegalArgumentException("no such sort, or not so many");
        }
        shelves[shelf].make(sort, many);
        return many;
    }

    public boolean lay(int shelf, int place, int official, boolean named) throws NoSuchElementException {
        if (!isShelf(shelf) || !shelves[shelf].isPlace(place) || !told.isNamed(OFFICIALS, official)) {
            throw new NoSuchElementException("no such shelf, place or official");
        }
        if (shelves[shelf].ofNames != named) {
            return false;
        }
        shelves[shelf].lies[place] = named ? told.names[OFFICIALS][official] : now.bitsOfForm(official);
        return true;
    }

    public long look(int shelf, int place) throws NoSuchElementException {
        if (!isShelf(shelf) || !shelves[shelf].isPlace(place)) {
            throw new NoSuchElementException("no such shelf or place");
        }
        return shelves[shelf].lies[place];
    }

    private boolean isShelf(int shelf) {
        return shelf >= 0 && shelf < shelves.length;
    }

    /** Places for numbers or for names; a name lies there as the same number to the base 27 that the tape reads. */
    private static final class Shelf {
        static final int ROOM = 20;

        final int[] lies;
        int count;
        boolean ofNames;

        Shelf() {
            lies = new int[ROOM];
        }

        void make(int sort, int many) {
            for (int i = 0; i < ROOM; i++) {
                lies[i] = NONE;
            }
            count = many;
            ofNames = sort == 1;
        }

        boolean isPlace(int place) {
            return place >= 0 && place < count;
        }
    }

    /** The own words; those of a law have the number under which a law asks for them. */
    private enum Word {
        FIELD("field", 0), ROAD("road", 0), CLUB("club", 0), ONE("one", 0), AT("at", 0), NO("no", 0),
        OFF("off", 0), TO("to", 0), GAME("game", 0), ON("on", 0), FOR("for", 0), BY("by", 0),
        REST("rest", 0), MOST("most", 0), FEE("fee", 0), GRADE("grade", Law.GRADE), NEED("need", Law.NEED),
        SEAT("seat", Law.SEAT), LASTS("lasts", Law.LASTS), DAY("day", Law.DAY), BEGINS("begins", Law.BEGINS),
        WAY("way", Law.WAY), FORM("form", Law.FORM);

        private static final Word[] ALL = values();

        final int code;
        final int asks;

        Word(String text, int asks) {
            int number = 0;
            for (int i = 0; i < text.length(); i++) {
                number = number * Tape.BASE + text.charAt(i) - 'a' + 1;
            }
            this.code = number;
            this.asks = asks;
        }

        static Word of(int code) {
            for (int i = 0; i < ALL.length; i++) {
                if (ALL[i].code == code) {
                    return ALL[i];
                }
            }
            return null;
        }
    }

    /** The bytes, and what stands together among them: letters, digits or one sign at a time. */
    private static final class Tape {
        static final int ROOM = 1200;
        static final int BASE = 27;
        static final int LONGEST_NAME = 6;
        static final int LONGEST_NUMBER = 4;

        final byte[] bytes;
        int length;
        /** Where the piece at hand begins, the first byte behind it, and where the piece ahead of it began. */
        int at;
        int behind;
        int taken;
        /** The piece at hand as letters to the base 27, as a number, as a sign: NONE where it is no such or too long. */
        int code;
        int number;
        int sign;

        Tape() {
            bytes = new byte[ROOM];
        }

        void append(int four) {
            for (int shift = 24; shift >= 0 && length < ROOM; shift -= 8) {
                bytes[length] = (byte) (four >> shift);
                length++;
            }
        }

        void rewind() {
            at = 0;
            behind = 0;
            advance();
        }

        boolean isOver() {
            return at >= length;
        }

        void advance() {
            taken = at;
            at = behind;
            while (at < length && (bytes[at] == ' ' || bytes[at] == '\n')) {
                at++;
            }
            behind = at;
            int sum = 0;
            while (behind < length && bytes[behind] >= 'a' && bytes[behind] <= 'z') {
                sum = sum * BASE + bytes[behind] - 'a' + 1;
                behind++;
            }
            int letters = behind - at;
            code = letters > 0 && letters <= LONGEST_NAME ? sum : NONE;
            sum = 0;
            while (letters == 0 && behind < length && bytes[behind] >= '0' && bytes[behind] <= '9') {
                sum = sum * 10 + bytes[behind] - '0';
                behind++;
            }
            int digits = behind - at - letters;
            number = digits > 0 && digits <= LONGEST_NUMBER ? sum : NONE;
            sign = NONE;
            if (behind == at && at < length) {
                sign = bytes[at] & 255;
                behind++;
            }
        }

        /** The i-th letter of a name that was read, 0 for a; NONE if it has not so many. */
        static int letterOf(int name, int i) {
            int letters = 0;
            int power = 1;
            for (int k = 0; k < LONGEST_NAME && name / power > 0; k++) {
                letters++;
                power *= BASE;
            }
            if (i < 0 || i >= letters) {
                return NONE;
            }
            int rest = name;
            for (int k = letters - 1; k > i; k--) {
                rest /= BASE;
            }
            return rest % BASE - 1;
        }
    }

    /** Reads the tape from left to right, so that the first fault met is the first by its place. */
    private static final class Reader {
        static final int DEEPEST = 4;

        final Tape tape;
        Week week;
        int fault;
        int place;
        private int lineAt;

        Reader(Tape tape) {
            this.tape = tape;
            this.place = NONE;
        }

        boolean readWeek(Week draft) {
            week = draft;
            week.empty();
            fault = 0;
            place = NONE;
            tape.rewind();
            for (int lines = 0; lines < Tape.ROOM && fault == 0 && !tape.isOver(); lines++) {
                readLine();
            }
            if (fault == 0) {
                week.settle();
            }
            return fault == 0;
        }

        private void readLine() {
            lineAt = tape.at;
            Word word = Word.of(tape.code);
            if (word == null) {
                fail(1, lineAt);
                return;
            }
            tape.advance();
            switch (word) {
                case FIELD: readGiven(FIELDS); break;
                case CLUB: readGiven(CLUBS); break;
                case ONE: readOfficial(); break;
                case ROAD: readRoad(); break;
                case OFF: readOff(); break;
                case GAME: readGame(); break;
                case REST: readRest(); break;
                case MOST: readMost(); break;
                case FEE: expectNoLaw(); readSum(0); break;
                default: fail(1, lineAt); break;
            }
            expectSign(';');
        }

        private int readGiven(int sort) {
            if (week.isFull(sort)) {
                fail(4, lineAt);
            }
            int name = newName();
            return fault == 0 ? week.addName(sort, name) : NONE;
        }

        private void readOfficial() {
            int official = readGiven(OFFICIALS);
            int grade = numberWithin(1, 5);
            expectWord(Word.AT);
            int home = toldName(FIELDS);
            int barred = 0;
            for (int i = 0; i < Tape.ROOM && fault == 0 && isWord(Word.NO); i++) {
                tape.advance();
                int club = toldName(CLUBS);
                if (fault == 0 && (barred >> club & 1) != 0) {
                    fail(3, tape.taken);
                }
                barred |= fault == 0 ? 1 << club : 0;
            }
            if (fault == 0) {
                week.grade[official] = grade;
                week.home[official] = home;
                week.barred[official] = barred;
                week.off[official] = 0;
            }
        }

        private void readRoad() {
            int from = toldName(FIELDS);
            int to = toldName(FIELDS);
            if (fault == 0 && (from == to || week.roads.isRoad(from, to))) {
                fail(3, tape.taken);
            }
            int minutes = numberWithin(1, 240);
            if (fault == 0) {
                week.roads.build(from, to, minutes);
            }
        }

        private void readOff() {
            int official = toldName(OFFICIALS);
            int first = numberWithin(0, DAYS - 1);
            int last = first;
            if (fault == 0 && isWord(Word.TO)) {
                tape.advance();
                last = numberWithin(first, DAYS - 1);
            }
            for (int day = first; fault == 0 && day <= last; day++) {
                week.off[official] |= 1 << day;
            }
        }

        private void readGame() {
            if (week.gameCount >= MOST_GAMES) {
                fail(4, lineAt);
            }
            int first = toldName(CLUBS);
            int second = toldName(CLUBS);
            if (fault == 0 && first == second) {
                fail(3, tape.taken);
            }
            expectWord(Word.AT);
            int field = toldName(FIELDS);
            if (fault == 0) {
                Game game = week.games[week.gameCount];
                game.first = first;
                game.second = second;
                game.field = field;
                readTimeOf(game);
            }
            if (fault == 0) {
                week.gameCount++;
            }
        }

        private void readTimeOf(Game game) {
            expectWord(Word.ON);
            game.day = numberWithin(0, DAYS - 1);
            game.begins = numberWithin(0, 1299);
            expectWord(Word.FOR);
            game.lasts = numberWithin(10, 140);
            expectWord(Word.GRADE);
            game.grade = numberWithin(1, 5);
            game.seats = 1;
            if (fault == 0 && isWord(Word.BY)) {
                tape.advance();
                game.seats = numberWithin(1, MOST_SEATS);
            }
        }

        private void readRest() {
            int minutes = numberWithin(0, 120);
            if (fault == 0) {
                week.rest = minutes;
            }
        }

        private void readMost() {
            int games = numberWithin(1, 4);
            if (fault == 0) {
                week.most = games;
            }
        }

        private void expectNoLaw() {
            if (week.law.count > 0) {
                fail(4, lineAt);
            }
        }

        private void readSum(int depth) {
            readTerm(depth);
            for (int i = 0; i < Tape.ROOM && fault == 0 && (tape.sign == '+' || tape.sign == '-'); i++) {
                int step = tape.sign == '+' ? Law.PLUS : Law.MINUS;
                tape.advance();
                readTerm(depth);
                week.law.add(step);
            }
        }

        private void readTerm(int depth) {
            readAtom(depth);
            for (int i = 0; i < Tape.ROOM && fault == 0 && (tape.sign == '*' || tape.sign == '/'); i++) {
                int step = tape.sign == '*' ? Law.TIMES : Law.BY;
                tape.advance();
                readAtom(depth);
                week.law.add(step);
            }
        }

        private void readAtom(int depth) {
            if (fault != 0) {
                return;
            }
            Word word = Word.of(tape.code);
            if (tape.number != NONE) {
                week.law.add(tape.number);
                tape.advance();
            } else if (word != null && word.asks != 0) {
                week.law.add(word.asks);
                tape.advance();
            } else if (tape.sign != '(') {
                fail(1, tape.at);
            } else if (depth >= DEEPEST) {
                fail(5, tape.at);
            } else {
                tape.advance();
                readSum(depth + 1);
                expectSign(')');
            }
        }

        private void fail(int number, int at) {
            if (fault == 0) {
                fault = number;
                place = at;
            }
        }

        private boolean isWord(Word word) {
            return tape.code == word.code;
        }

        private void expectWord(Word word) {
            if (fault == 0) {
                if (isWord(word)) {
                    tape.advance();
                } else {
                    fail(1, tape.at);
                }
            }
        }

        private void expectSign(int sign) {
            if (fault == 0) {
                if (tape.sign == sign) {
                    tape.advance();
                } else {
                    fail(1, tape.at);
                }
            }
        }

        private int numberWithin(int least, int most) {
            int number = tape.number;
            if (number == NONE) {
                fail(1, tape.at);
            } else if (number < least || number > most) {
                fail(2, tape.at);
            }
            if (fault != 0) {
                return NONE;
            }
            tape.advance();
            return number;
        }

        /** An own word is no name, whatever is asked. */
        private int anyName() {
            int name = tape.code;
            if (name == NONE || Word.of(name) != null) {
                fail(1, tape.at);
            }
            return name;
        }

        private int newName() {
            int name = anyName();
            if (fault == 0 && week.isGiven(name)) {
                fail(3, tape.at);
            }
            if (fault != 0) {
                return NONE;
            }
            tape.advance();
            return name;
        }

        private int toldName(int sort) {
            int which = week.find(sort, anyName());
            if (which == NONE) {
                fail(3, tape.at);
            }
            if (fault != 0) {
                return NONE;
            }
            tape.advance();
            return which;
        }
    }

    /** The law of the fee, its steps in the order in which they are done: what is at 0 or above is a number of its own. */
    private static final class Law {
        static final int GRADE = -1;
        static final int NEED = -2;
        static final int SEAT = -3;
        static final int LASTS = -4;
        static final int DAY = -5;
        static final int BEGINS = -6;
        static final int WAY = -7;
        static final int FORM = -8;
        static final int PLUS = -11;
        static final int MINUS = -12;
        static final int TIMES = -13;
        static final int BY = -14;
        /** Each open "(" leaves two numbers waiting at most. */
        static final int WAITING = 16;

        final int[] steps;
        int count;
        /** What the words stand for, GRADE first. */
        final int[] asked;
        private final long[] stack;
        private int top;

        Law() {
            steps = new int[Tape.ROOM];
            asked = new int[8];
            stack = new long[WAITING];
        }

        void add(int step) {
            if (count < steps.length) {
                steps[count] = step;
                count++;
            }
        }

        void set(int word, int value) {
            asked[-1 - word] = value;
        }

        long tell() {
            if (count == 0) {
                return 0;
            }
            top = 0;
            boolean fine = true;
            for (int i = 0; i < count && fine; i++) {
                int step = steps[i];
                fine = step <= PLUS ? join(step) : push(step);
            }
            return fine && top == 1 ? stack[0] : UNTOLD;
        }

        private boolean push(int step) {
            int value = step >= 0 ? step : asked[-1 - step];
            if (top >= WAITING || step == WAY && value == NONE) {
                return false;
            }
            stack[top] = value;
            top++;
            return true;
        }

        private boolean join(int step) {
            if (top < 2) {
                return false;
            }
            top--;
            long left = stack[top - 1];
            long right = stack[top];
            if (step == BY && right == 0) {
                return false;
            }
            long value;
            switch (step) {
                case PLUS: value = left + right; break;
                case MINUS: value = left - right; break;
                case TIMES: value = left * right; break;
                default: value = Math.floorDiv(left, right); break;
            }
            stack[top - 1] = value;
            return value >= -2147483648L && value <= 2147483647L;
        }
    }

    /** Fields and the roads between them. */
    private static final class Roads {
        static final int MOST = 6;
        static final int FAR = 999;

        int fields;
        /** Minutes of the road, 0 without. */
        final int[][] straight;
        /** Minutes of the way, NONE without. */
        final int[][] least;

        Roads() {
            straight = new int[MOST][MOST];
            least = new int[MOST][MOST];
        }

        void empty() {
            fields = 0;
            for (int a = 0; a < MOST; a++) {
                for (int b = 0; b < MOST; b++) {
                    straight[a][b] = 0;
                }
            }
        }

        boolean isRoad(int from, int to) {
            return straight[from][to] != 0;
        }

        void build(int from, int to, int minutes) {
            straight[from][to] = minutes;
            straight[to][from] = minutes;
        }

        void settle(int count) {
            fields = count;
            for (int a = 0; a < fields; a++) {
                for (int b = 0; b < fields; b++) {
                    least[a][b] = a == b ? 0 : straight[a][b] > 0 ? straight[a][b] : NONE;
                }
            }
            for (int through = 0; through < fields; through++) {
                shorten(through);
            }
        }

        private void shorten(int through) {
            for (int a = 0; a < fields; a++) {
                for (int b = 0; b < fields; b++) {
                    int to = least[a][through];
                    int from = least[through][b];
                    if (to != NONE && from != NONE && (least[a][b] == NONE || to + from < least[a][b])) {
                        least[a][b] = to + from;
                    }
                }
            }
        }

        int firstOn(int from, int to) {
            int whole = least[from][to];
            for (int next = 0; next < fields && from != to && whole != NONE; next++) {
                int onward = least[next][to];
                if (straight[from][next] > 0 && onward != NONE && straight[from][next] + onward == whole) {
                    return next;
                }
            }
            return NONE;
        }

        int stretch(int from, int to) {
            return least[from][to] == NONE ? FAR : least[from][to];
        }

        int middle() {
            int best = NONE;
            int bestSum = 0;
            for (int a = 0; a < fields; a++) {
                int sum = 0;
                for (int b = 0; b < fields; b++) {
                    sum += stretch(a, b);
                }
                if (best == NONE || sum < bestSum) {
                    best = a;
                    bestSum = sum;
                }
            }
            return best;
        }
    }

    private static final class Game {
        int first;
        int second;
        int field;
        int day;
        int begins;
        int lasts;
        int grade;
        int seats;
        /** As bits, the games of its day that are at once with it, and those too near to it by way and rest. */
        int clash;
        int tight;

        int ends() {
            return begins + lasts;
        }

        int needOf(int seat) {
            return seat == 0 || grade == 1 ? grade : grade - 1;
        }

        void compare(Game other, int bit, int apart) {
            boolean atOnce = begins < other.ends() && other.begins < ends();
            int between = begins < other.begins ? other.begins - ends() : begins - other.ends();
            clash |= atOnce ? bit : 0;
            tight |= apart == NONE || between < apart ? bit : 0;
        }
    }

    /** What was told; names are numbers to the base 27. */
    private static final class Week {
        private static final int[] LIMITS = {6, 8, 10};

        final int[][] names;
        final int[] counts;
        final int[] grade;
        final int[] home;
        final int[] barred;
        final int[] off;
        final Game[] games;
        int gameCount;
        int rest;
        int most;
        final Roads roads;
        final Law law;
        /** Games as they begin, of like begins by numbers. */
        final int[] order;
        /** Games of a day, games on a field, as bits. */
        final int[] onDay;
        final int[] onField;

        Week() {
            names = new int[3][10];
            counts = new int[3];
            grade = new int[10];
            home = new int[10];
            barred = new int[10];
            off = new int[10];
            games = new Game[MOST_GAMES];
            for (int g = 0; g < MOST_GAMES; g++) {
                games[g] = new Game();
            }
            roads = new Roads();
            law = new Law();
            order = new int[MOST_GAMES];
            onDay = new int[DAYS];
            onField = new int[Roads.MOST];
            rest = 10;
            most = 3;
        }

        static int placeOf(int game, int seat) {
            return MOST_SEATS * game + seat;
        }

        void empty() {
            for (int sort = 0; sort < counts.length; sort++) {
                counts[sort] = 0;
            }
            gameCount = 0;
            rest = 10;
            most = 3;
            roads.empty();
            law.count = 0;
        }

        boolean isFull(int sort) {
            return counts[sort] >= LIMITS[sort];
        }

        boolean isNamed(int sort, int which) {
            return which >= 0 && which < counts[sort];
        }

        boolean isGiven(int name) {
            return find(FIELDS, name) != NONE || find(CLUBS, name) != NONE || find(OFFICIALS, name) != NONE;
        }

        int find(int sort, int name) {
            for (int i = 0; i < counts[sort]; i++) {
                if (names[sort][i] == name) {
                    return i;
                }
            }
            return NONE;
        }

        int addName(int sort, int name) {
            int which = counts[sort];
            names[sort][which] = name;
            counts[sort]++;
            return which;
        }

        boolean areFields(int a, int b) {
            return isNamed(FIELDS, a) && isNamed(FIELDS, b);
        }

        boolean isGame(int game) {
            return game >= 0 && game < gameCount;
        }

        boolean isSeat(int game, int seat) {
            return isGame(game) && seat >= 0 && seat < games[game].seats;
        }

        int seatCount() {
            int sum = 0;
            for (int g = 0; g < gameCount; g++) {
                sum += games[g].seats;
            }
            return sum;
        }

        void settle() {
            roads.settle(counts[FIELDS]);
            for (int day = 0; day < DAYS; day++) {
                onDay[day] = 0;
            }
            for (int field = 0; field < Roads.MOST; field++) {
                onField[field] = 0;
            }
            for (int g = 0; g < gameCount; g++) {
                onDay[games[g].day] |= 1 << g;
                onField[games[g].field] |= 1 << g;
                order[g] = g;
            }
            for (int g = 0; g < gameCount; g++) {
                compareWithOthers(g);
                sinkIntoOrder(g);
            }
        }

        private void compareWithOthers(int game) {
            Game g = games[game];
            g.clash = 0;
            g.tight = 0;
            for (int h = 0; h < gameCount; h++) {
                if (h != game && games[h].day == g.day) {
                    int minutes = roads.least[g.field][games[h].field];
                    g.compare(games[h], 1 << h, minutes == NONE ? NONE : minutes + rest);
                }
            }
        }

        private void sinkIntoOrder(int game) {
            for (int i = game; i > 0 && games[order[i - 1]].begins > games[order[i]].begins; i--) {
                int later = order[i - 1];
                order[i - 1] = order[i];
                order[i] = later;
            }
        }
    }

    /** Who sits where, what day it is, and what is thought of whom: all that an act may change. */
    private static final class Roster {
        Week week;
        int today;
        /** By places, 3 times game and seat. */
        final int[] holder;
        final int[] marked;
        /** By officials. */
        final int[] grade;
        final float[] form;
        final int[] marks;
        /** Games in which an official has a seat, as bits: one seat of a game at most. */
        final int[] held;
        /** Officials by form, as sortByForm() left them. */
        final int[] ranked;
        /** By how much grades are to change, noted apart so that nobody is judged by a grade that has changed. */
        private final int[] change;

        Roster(Week week) {
            holder = new int[MOST_GAMES * MOST_SEATS];
            marked = new int[MOST_GAMES * MOST_SEATS];
            grade = new int[10];
            form = new float[10];
            marks = new int[10];
            held = new int[10];
            ranked = new int[10];
            change = new int[10];
            open(week);
        }

        void open(Week fresh) {
            week = fresh;
            today = NONE;
            for (int place = 0; place < holder.length; place++) {
                holder[place] = NONE;
                marked[place] = NONE;
            }
            for (int o = 0; o < grade.length; o++) {
                grade[o] = week.grade[o];
                form[o] = 50f;
                marks[o] = 0;
                held[o] = 0;
            }
        }

        void copyOf(Roster other) {
            today = other.today;
            System.arraycopy(other.holder, 0, holder, 0, holder.length);
            System.arraycopy(other.marked, 0, marked, 0, marked.length);
            System.arraycopy(other.grade, 0, grade, 0, grade.length);
            System.arraycopy(other.form, 0, form, 0, form.length);
            System.arraycopy(other.marks, 0, marks, 0, marks.length);
            System.arraycopy(other.held, 0, held, 0, held.length);
        }

        int officials() {
            return week.counts[OFFICIALS];
        }

        boolean isPlayed(int game) {
            return week.games[game].day < today;
        }

        boolean isLate(int game) {
            return week.games[game].day == today;
        }

        void sit(int game, int seat, int official) {
            holder[Week.placeOf(game, seat)] = official;
            held[official] |= 1 << game;
        }

        void rise(int game, int seat) {
            int place = Week.placeOf(game, seat);
            int official = holder[place];
            if (official != NONE) {
                held[official] &= ~(1 << game);
                holder[place] = NONE;
            }
        }

        int takenCount() {
            int sum = 0;
            for (int o = 0; o < officials(); o++) {
                sum += Integer.bitCount(held[o]);
            }
            return sum;
        }

        /** Why an official may not take a seat, 0 if it may, for any numbers. */
        int reason(int game, int seat, int official) {
            if (!week.isSeat(game, seat) || !week.isNamed(OFFICIALS, official)) {
                return 1;
            }
            if (isPlayed(game)) {
                return 2;
            }
            if (holder[Week.placeOf(game, seat)] != NONE) {
                return 3;
            }
            return hindrance(game, seat, official, held[official]);
        }

        /** The reasons from 4 on, of an official that had the games of these bits. */
        int hindrance(int game, int seat, int official, int having) {
            Game g = week.games[game];
            int thatDay = having & week.onDay[g.day];
            if ((having >> game & 1) != 0) {
                return 4;
            }
            if (grade[official] < g.needOf(seat)) {
                return 5;
            }
            if ((week.barred[official] & (1 << g.first | 1 << g.second)) != 0) {
                return 6;
            }
            if ((week.off[official] >> g.day & 1) != 0) {
                return 7;
            }
            if (Integer.bitCount(thatDay) >= week.most) {
                return 8;
            }
            if ((thatDay & g.clash) != 0) {
                return 9;
            }
            if (week.roads.least[week.home[official]][g.field] == NONE || (thatDay & g.tight) != 0) {
                return 10;
            }
            return Integer.bitCount(fieldsOf(thatDay | 1 << game)) > 2 ? 11 : 0;
        }

        private int fieldsOf(int games) {
            int bits = 0;
            for (int field = 0; field < week.counts[FIELDS]; field++) {
                if ((games & week.onField[field]) != 0) {
                    bits |= 1 << field;
                }
            }
            return bits;
        }

        int exchangeable(int game, int seat, int other, int place) {
            if (!week.isSeat(game, seat) || !week.isSeat(other, place)) {
                return -1;
            }
            if (isPlayed(game) || isPlayed(other)) {
                return -2;
            }
            int a = holder[Week.placeOf(game, seat)];
            int b = holder[Week.placeOf(other, place)];
            if (a == NONE || b == NONE) {
                return -3;
            }
            if (game == other || a == b) {
                return -4;
            }
            if (grade[a] != grade[b]) {
                return -5;
            }
            boolean both = hindrance(other, place, a, held[a] & ~(1 << game)) == 0
                && hindrance(game, seat, b, held[b] & ~(1 << other)) == 0;
            return both ? 0 : -6;
        }

        void trade(int game, int seat, int other, int place) {
            int a = holder[Week.placeOf(game, seat)];
            int b = holder[Week.placeOf(other, place)];
            rise(game, seat);
            rise(other, place);
            sit(other, place, a);
            sit(game, seat, b);
        }

        /** How long the round on a day would be, had the official the games of these bits. */
        int roundOn(int official, int having, int day) {
            int games = having & week.onDay[day];
            if (games == 0) {
                return 0;
            }
            int sum = 0;
            int from = week.home[official];
            for (int i = 0; i < week.gameCount; i++) {
                int game = week.order[i];
                if ((games >> game & 1) != 0) {
                    int to = week.games[game].field;
                    sum += week.roads.stretch(from, to);
                    from = to;
                }
            }
            return sum + week.roads.stretch(from, week.home[official]);
        }

        int detour(int game, int seat, int official) {
            int bit = 1 << game;
            int day = week.games[game].day;
            int without = held[official];
            if (holder[Week.placeOf(game, seat)] == official) {
                without &= ~bit;
            }
            return roundOn(official, without | bit, day) - roundOn(official, without, day);
        }

        long pay(int game, int seat, int official) {
            Game g = week.games[game];
            Law law = week.law;
            law.set(Law.GRADE, grade[official]);
            law.set(Law.NEED, g.needOf(seat));
            law.set(Law.SEAT, seat);
            law.set(Law.LASTS, g.lasts);
            law.set(Law.DAY, g.day);
            law.set(Law.BEGINS, g.begins);
            law.set(Law.WAY, week.roads.least[week.home[official]][g.field]);
            law.set(Law.FORM, (int) form[official]);
            return law.tell();
        }

        /** Of one official, or of all for NONE. */
        long payOfAll(int official) {
            long sum = 0;
            for (int g = 0; g < week.gameCount; g++) {
                for (int s = 0; s < week.games[g].seats; s++) {
                    int who = holder[Week.placeOf(g, s)];
                    long pay = who != NONE && (official == NONE || official == who) ? pay(g, s, who) : UNTOLD;
                    sum += pay == UNTOLD ? 0 : pay;
                }
            }
            return sum;
        }

        /** How many seats are not sound for NONE, else the place of the i-th. */
        int unsoundPlace(int i) {
            int count = 0;
            for (int g = 0; g < week.gameCount; g++) {
                for (int s = 0; s < week.games[g].seats; s++) {
                    int place = Week.placeOf(g, s);
                    int who = holder[place];
                    if (who != NONE && hindrance(g, s, who, held[who] & ~(1 << g)) != 0) {
                        if (count == i) {
                            return place;
                        }
                        count++;
                    }
                }
            }
            return i == NONE ? count : NONE;
        }

        int journey(int official, int day, int what) {
            int games = held[official] & week.onDay[day];
            if (what == 2) {
                return fieldsOf(games);
            }
            if (what == 3) {
                return Integer.bitCount(games);
            }
            if (what < 0 || what > 3 || games == 0) {
                return -10000;
            }
            int end = NONE;
            for (int i = 0; i < week.gameCount; i++) {
                boolean isNext = (games >> week.order[i] & 1) != 0;
                if (isNext && (end == NONE || what == 1)) {
                    end = week.order[i];
                }
            }
            return end == NONE ? -10000 : minuteAtHome(official, week.games[end], what);
        }

        private int minuteAtHome(int official, Game game, int what) {
            int minutes = week.roads.least[week.home[official]][game.field];
            if (minutes == NONE) {
                return -10000;
            }
            return what == 0 ? game.begins - week.rest - minutes : game.ends() + minutes;
        }

        int spreadOfSeats(int what) {
            if (what < 0 || what > 2 || officials() == 0) {
                return NONE;
            }
            int most = 0;
            int fewest = 0;
            for (int o = 1; o < officials(); o++) {
                int seats = Integer.bitCount(held[o]);
                most = seats > Integer.bitCount(held[most]) ? o : most;
                fewest = seats < Integer.bitCount(held[fewest]) ? o : fewest;
            }
            if (what == 0) {
                return Integer.bitCount(held[most]) - Integer.bitCount(held[fewest]);
            }
            return what == 1 ? most : fewest;
        }

        int playDay(int seed) {
            int z = seed;
            int count = 0;
            int played = today;
            today++;
            for (int g = 0; g < week.gameCount; g++) {
                for (int s = 0; s < week.games[g].seats; s++) {
                    int place = Week.placeOf(g, s);
                    if (week.games[g].day == played && holder[place] != NONE) {
                        z = 1103515245 * z + 12345;
                        giveMark(place, (z >>> 16) % 101);
                        count++;
                    }
                }
            }
            return count;
        }

        boolean isMarkable(int game, int seat) {
            if (!week.isSeat(game, seat) || !isPlayed(game)) {
                return false;
            }
            int place = Week.placeOf(game, seat);
            return holder[place] != NONE && marked[place] == NONE;
        }

        void giveMark(int place, int m) {
            int official = holder[place];
            float old = form[official] * 0.75f;
            float fresh = m * 0.25f;
            form[official] = old + fresh;
            marks[official]++;
            marked[place] = m;
        }

        /** The bits of a float that is not below 0, made by hand: the machine's own are not in the rules' library. */
        int bitsOfForm(int official) {
            float rest = form[official];
            if (rest <= 0f) {
                return 0;
            }
            int power = 127;
            for (; rest >= 2f && power < 254; power++) {
                rest /= 2f;
            }
            for (; rest < 1f && power > 1; power--) {
                rest *= 2f;
            }
            if (rest < 1f) {
                return (int) (rest * 8388608f);
            }
            return (power << 23) + (int) ((rest - 1f) * 8388608f);
        }

        private boolean isAhead(int a, int b) {
            if (form[a] != form[b]) {
                return form[a] > form[b];
            }
            return marks[a] != marks[b] ? marks[a] > marks[b] : a < b;
        }

        void sortByForm() {
            for (int o = 0; o < officials(); o++) {
                int ahead = 0;
                for (int other = 0; other < officials(); other++) {
                    if (isAhead(other, o)) {
                        ahead++;
                    }
                }
                ranked[ahead] = o;
            }
        }

        int promote(int up, int down) {
            sortByForm();
            int count = 0;
            for (int level = 1; level <= 5; level++) {
                count += markRisers(level, level < 5 ? up : 0);
                count += markFallers(level, level > 1 ? down : 0);
            }
            for (int o = 0; o < officials(); o++) {
                grade[o] += change[o];
                change[o] = 0;
                marks[o] = 0;
            }
            return count;
        }

        private int markRisers(int level, int many) {
            int count = 0;
            for (int i = 0; i < officials() && count < many; i++) {
                int o = ranked[i];
                if (grade[o] == level && marks[o] >= 2 && form[o] >= 60f) {
                    change[o] = 1;
                    count++;
                }
            }
            return count;
        }

        private int markFallers(int level, int many) {
            int count = 0;
            for (int i = officials() - 1; i >= 0 && count < many; i--) {
                int o = ranked[i];
                if (grade[o] == level && marks[o] >= 2 && form[o] < 40f) {
                    change[o] = -1;
                    count++;
                }
            }
            return count;
        }
    }

    /** Looks for whom to take, with rows of its own to note what it found. */
    private static final class Desk {
        private static final int MOST_PUTS = 20000;
        /** Beyond every fee that can be told. */
        private static final long DEAREST = 2147483648L;

        private final Roster roster;
        /** The seats to fill as places, and who was put in each. */
        private final int[] open;
        private final int[] chosen;
        private final int[] crew;
        private int crewSum;
        private boolean crewFound;
        private final int[] found;

        Desk(Roster roster) {
            this.roster = roster;
            open = new int[MOST_GAMES * MOST_SEATS];
            chosen = new int[MOST_GAMES * MOST_SEATS];
            crew = new int[MOST_SEATS];
            found = new int[5];
        }

        int nearest(int game, int seat) {
            int best = NONE;
            int bestExtra = 0;
            long bestPay = 0;
            for (int o = 0; o < roster.officials(); o++) {
                if (roster.reason(game, seat, o) == 0) {
                    int extra = roster.detour(game, seat, o);
                    long pay = roster.pay(game, seat, o);
                    pay = pay == UNTOLD ? DEAREST : pay;
                    if (best == NONE || extra < bestExtra || extra == bestExtra && pay < bestPay) {
                        best = o;
                        bestExtra = extra;
                        bestPay = pay;
                    }
                }
            }
            return best;
        }

        int findCrew(int game, int what) {
            if (roster.isPlayed(game)) {
                return NONE;
            }
            crewFound = false;
            tryCrew(game, 0, 0);
            if (!crewFound) {
                return NONE;
            }
            return what == 0 ? crewSum : crew[what - 1];
        }

        /** One level for each free seat of the game; those that are taken stay as they are. */
        private void tryCrew(int game, int from, int sum) {
            int seats = roster.week.games[game].seats;
            int seat = from;
            while (seat < seats && roster.holder[Week.placeOf(game, seat)] != NONE) {
                seat++;
            }
            if (seat < seats) {
                tryEachIn(game, seat, sum);
            } else if (!crewFound || sum < crewSum) {
                crewFound = true;
                crewSum = sum;
                System.arraycopy(roster.holder, Week.placeOf(game, 0), crew, 0, seats);
            }
        }

        private void tryEachIn(int game, int seat, int sum) {
            for (int o = 0; o < roster.officials(); o++) {
                if (roster.reason(game, seat, o) == 0) {
                    int extra = roster.detour(game, seat, o);
                    roster.sit(game, seat, o);
                    tryCrew(game, seat + 1, sum + extra);
                    roster.rise(game, seat);
                }
            }
        }

        private int listOpen() {
            int count = 0;
            for (int g = 0; g < roster.week.gameCount; g++) {
                boolean ahead = !roster.isPlayed(g) && !roster.isLate(g);
                for (int s = 0; ahead && s < roster.week.games[g].seats; s++) {
                    int place = Week.placeOf(g, s);
                    if (roster.holder[place] == NONE) {
                        open[count] = place;
                        count++;
                    }
                }
            }
            return count;
        }

        int fillAll() {
            int count = listOpen();
            int puts = 0;
            int k = 0;
            int from = 0;
            for (int i = 0; i < 1000000 && k >= 0 && k < count && puts <= MOST_PUTS; i++) {
                int o = firstFor(open[k], from);
                if (o != NONE) {
                    roster.sit(open[k] / MOST_SEATS, open[k] % MOST_SEATS, o);
                    chosen[k] = o;
                    puts++;
                    k++;
                    from = 0;
                } else {
                    k--;
                    if (k >= 0) {
                        roster.rise(open[k] / MOST_SEATS, open[k] % MOST_SEATS);
                        from = chosen[k] + 1;
                    }
                }
            }
            if (puts > MOST_PUTS) {
                emptyFirst(k);
                return -2;
            }
            return k < 0 ? NONE : count;
        }

        private int firstFor(int place, int from) {
            for (int o = from; o < roster.officials(); o++) {
                if (roster.reason(place / MOST_SEATS, place % MOST_SEATS, o) == 0) {
                    return o;
                }
            }
            return NONE;
        }

        private void emptyFirst(int count) {
            for (int k = 0; k < count; k++) {
                roster.rise(open[k] / MOST_SEATS, open[k] % MOST_SEATS);
            }
        }

        private void note(int a, int b, int c, int d, int e) {
            found[0] = a;
            found[1] = b;
            found[2] = c;
            found[3] = d;
            found[4] = e;
        }

        int findStep(int game, int seat, int what) {
            int gone = roster.holder[Week.placeOf(game, seat)];
            note(NONE, NONE, NONE, NONE, NONE);
            if (gone == NONE) {
                return NONE;
            }
            int comer = otherFor(game, seat, gone, NONE);
            if (comer != NONE) {
                note(1, comer, NONE, NONE, NONE);
            }
            for (int o = 0; o < roster.officials() && found[0] == NONE; o++) {
                if (o != gone) {
                    followUp(game, seat, gone, o);
                }
            }
            return found[what];
        }

        /** Who may take a seat, be it free or not, but for two. */
        private int otherFor(int game, int seat, int not, int nor) {
            for (int o = 0; o < roster.officials(); o++) {
                if (o != not && o != nor && roster.hindrance(game, seat, o, roster.held[o]) == 0) {
                    return o;
                }
            }
            return NONE;
        }

        private void followUp(int game, int seat, int gone, int comer) {
            for (int g = 0; g < roster.week.gameCount; g++) {
                boolean leaves = g != game && !roster.isPlayed(g) && (roster.held[comer] >> g & 1) != 0;
                if (leaves && roster.hindrance(game, seat, comer, roster.held[comer] & ~(1 << g)) == 0) {
                    int left = seatIn(g, comer);
                    int follower = otherFor(g, left, gone, comer);
                    if (follower != NONE) {
                        note(2, comer, g, left, follower);
                        return;
                    }
                }
            }
        }

        private int seatIn(int game, int official) {
            int seats = roster.week.games[game].seats;
            int s = 0;
            while (s < seats - 1 && roster.holder[Week.placeOf(game, s)] != official) {
                s++;
            }
            return s;
        }

        int findExchange(int what) {
            note(0, NONE, NONE, NONE, NONE);
            int places = MOST_SEATS * roster.week.gameCount;
            for (int a = 0; a < places; a++) {
                for (int b = a + 1; b < places && roster.holder[a] != NONE; b++) {
                    weigh(a / MOST_SEATS, a % MOST_SEATS, b / MOST_SEATS, b % MOST_SEATS);
                }
            }
            return found[what];
        }

        private void weigh(int game, int seat, int other, int place) {
            if (roster.exchangeable(game, seat, other, place) == 0) {
                int a = roster.holder[Week.placeOf(game, seat)];
                int b = roster.holder[Week.placeOf(other, place)];
                int shorter = gain(a, game, other) + gain(b, other, game);
                if (shorter > found[0]) {
                    note(shorter, game, seat, other, place);
                }
            }
        }

        /** By how much the rounds of an official are shorter with another game for one of its. */
        private int gain(int official, int leaves, int gets) {
            int having = roster.held[official];
            int then = having & ~(1 << leaves) | 1 << gets;
            int day = roster.week.games[leaves].day;
            int another = roster.week.games[gets].day;
            int sum = roster.roundOn(official, having, day) - roster.roundOn(official, then, day);
            if (another != day) {
                sum += roster.roundOn(official, having, another) - roster.roundOn(official, then, another);
            }
            return sum;
        }
    }
}
