import java.util.Arrays;

/**
 * Apples in a tub and bobbers at its rim: a text tells them, tries change them, and questions are
 * answered from what is now. The document's promises stand in the order of the public methods.
 */
public final class TubBites {
    public static final int NONE = -1;
    public static final int GAP = -1000000;

    private static final int NO_SUCH = -2;
    private static final int EATEN = 9;

    private static final int TAPE_BYTES = 1600;
    private static final int MOST_APPLES = 10;
    private static final int MOST_BOBBERS = 4;
    private static final int MOST_RULES = 6;
    private static final int MOST_SIDE = 6;
    private static final int BOXES = 3;
    private static final int MOST_LYING = MOST_RULES * MOST_RULES;

    private static final int KINDS = 5;
    private static final int FREE = 0;
    private static final int STALK = 1;
    private static final int WALL = 2;
    private static final int LEAN = 4;
    private static final int[] TRY_SECONDS = {1, 1, 2, 3, 1};
    private static final int[] TRY_BREATH = {0, 0, 1, 3, 0};
    private static final int BREATHING_SECONDS = 2;

    private static final int SIDES = 4;
    private static final int[] SIDE_X = {-1, 1, 0, 0};
    private static final int[] SIDE_Y = {0, 0, 1, -1};

    private static final int MOST_PARTY_TURNS = 20;
    private static final int MOST_TRIAL_TURNS = 10;
    private static final int MOST_GONE_TURNS = 60;
    private static final int MOST_BEST_SECONDS = 8;
    private static final int MOST_ROOM = 999;
    private static final int NEVER_LASTS = 9999;
    private static final int MOST_LATER = 1000;
    private static final int LAST_TIME = 100000;

    private final byte[] tape = new byte[TAPE_BYTES];
    private int taped;
    /** The text is read into this one, so that a fault leaves the tub that stands as it is. */
    private Told spare = new Told();
    private final Reader reader = new Reader(spare);
    private final Game game = new Game(new Told());
    private final State now = new State();
    private final History history = new History();
    private final State[] boxes = new State[BOXES];
    private final boolean[] boxed = new boolean[BOXES];
    private final Search search = new Search(game);
    private final Trials trials = new Trials(game);
    private final Picks picks = new Picks(trials);
    private int time;
    private final int[] lying = new int[MOST_LYING];
    private int lyingCount;

    public TubBites() {
        now.begin(game.told);
        history.start(now);
    }

    public int feed(int a, int b, int c, int d, int e) {
        if (taped > TAPE_BYTES - 20) {
            return NONE;
        }
        append(a);
        append(b);
        append(c);
        append(d);
        append(e);
        return taped;
    }

    private void append(int four) {
        for (int shift = 24; shift >= 0 && taped < TAPE_BYTES; shift -= 8) {
            tape[taped] = (byte) (four >> shift);
            taped++;
        }
    }

    public int end(int n) {
        if (n < 0 || n > taped) {
            return NONE;
        }
        taped = n;
        return n;
    }

    public int tub() {
        boolean fine = reader.read(tape, taped, spare);
        taped = 0;
        if (!fine) {
            return NONE;
        }
        Told read = spare;
        spare = game.told;
        game.told = read;
        now.begin(read);
        history.start(now);
        picks.clear();
        lyingCount = 0;
        for (int box = 0; box < BOXES; box++) {
            boxed[box] = false;
        }
        return read.apples;
    }

    public int fault(int what) {
        if (what == 0) {
            return reader.fault;
        }
        return what == 1 ? reader.place : NONE;
    }

    public int apple(int apple, int what) {
        if (!isApple(apple)) {
            return NO_SUCH;
        }
        switch (what) {
            case 0:
                return now.x[apple];
            case 1:
                return now.y[apple];
            case 2:
                return now.holder[apple];
            case 3:
                return now.missed[apple];
            case 4:
                return now.size[apple];
            default:
                return NO_SUCH;
        }
    }

    public int bobber(int bobber, int what) {
        if (!isBobber(bobber)) {
            return NONE;
        }
        switch (what) {
            case 0:
                return now.breath[bobber];
            case 1:
                return now.got[bobber];
            case 2:
                return now.seconds[bobber];
            default:
                return NONE;
        }
    }

    public int odds(int bobber, int apple, int kind) {
        return canTryNow(bobber, apple, kind) ? game.oddsOf(now, bobber, apple, kind) : NONE;
    }

    public int chooses(int bobber) {
        if (!isBobber(bobber)) {
            return NO_SUCH;
        }
        return game.choose(now, bobber, game.told.ruleOf(bobber));
    }

    public int go(int bobber, int apple, int kind) {
        if (!canTryNow(bobber, apple, kind)) {
            return NONE;
        }
        boolean got = game.tryInEarnest(now, bobber, apple, kind);
        history.keep(now);
        return got ? 1 : 0;
    }

    public int breathe(int bobber) {
        if (!isBobber(bobber)) {
            return NONE;
        }
        game.takeBreath(now, bobber);
        history.keep(now);
        return now.breath[bobber];
    }

    public int wave(int side) {
        if (side < 0 || side >= SIDES) {
            return NONE;
        }
        int moved = game.rock(now, side);
        history.keep(now);
        return moved;
    }

    public int party(int turns) {
        if (turns < 0 || turns > MOST_PARTY_TURNS) {
            return NONE;
        }
        int got = 0;
        for (int turn = 0; turn < turns; turn++) {
            got += game.turnOfAll(now);
        }
        history.keep(now);
        return got;
    }

    public boolean undo() {
        return history.stepBack(now);
    }

    public boolean redo() {
        return history.stepOn(now);
    }

    public int best(int bobber, int n, int what) {
        if (!isBobber(bobber) || n < 0 || n > MOST_BEST_SECONDS || what < 0 || what > 2) {
            return NONE;
        }
        int most = search.bestAlone(now, bobber, n);
        if (search.spent) {
            return NO_SUCH;
        }
        if (what == 0) {
            return most;
        }
        if (what == 1) {
            return search.first >= 0 ? search.first : NONE;
        }
        return search.first == Search.BREATHING ? 1 : 0;
    }

    public int match(int one, int two) {
        if (game.told.bobbers < 2 || !isRule(one) || !isRule(two)) {
            return GAP;
        }
        return trials.lead(now, one, two);
    }

    public int reply(int two) {
        if (game.told.bobbers < 2 || !isRule(two)) {
            return NONE;
        }
        int answer = 0;
        int most = trials.lead(now, 0, two);
        for (int one = 1; one < game.told.rules; one++) {
            int lead = trials.lead(now, one, two);
            if (lead > most) {
                most = lead;
                answer = one;
            }
        }
        return answer;
    }

    public int rests() {
        lyingCount = 0;
        if (game.told.bobbers < 2) {
            return 0;
        }
        trials.playAllPairs(now);
        for (int one = 0; one < game.told.rules; one++) {
            for (int two = 0; two < game.told.rules; two++) {
                if (trials.isAtRest(one, two)) {
                    lay(10 * one + two);
                }
            }
        }
        return lyingCount;
    }

    public int record(int bobber, int kind, int what) {
        if (!isBobber(bobber) || !isKind(kind) || what < 0 || what >= State.RECORDS) {
            return NONE;
        }
        return now.records[State.recordAt(bobber, kind) + what];
    }

    public int easier(int bobber, int apple) {
        if (!canTryNow(bobber, apple, FREE)) {
            return NONE;
        }
        int own = game.oddsOf(now, bobber, apple, FREE);
        int count = 0;
        for (int other = 0; other < game.told.apples; other++) {
            if (game.canTry(now, bobber, other, FREE) && game.oddsOf(now, bobber, other, FREE) > own) {
                count++;
            }
        }
        return count;
    }

    public int seat(int bobber, int n, int what) {
        if (!isBobber(bobber) || !isTrialTurns(n) || what < 0 || what > 2) {
            return NONE;
        }
        trials.findSeat(now, bobber, n);
        if (what == 0) {
            return trials.seatX;
        }
        return what == 1 ? trials.seatY : trials.seatGets;
    }

    public int order(int n) {
        lyingCount = 0;
        if (!isTrialTurns(n)) {
            return NONE;
        }
        int got = trials.findOrder(now, n);
        layAll(trials.bestOrder, game.told.bobbers);
        return got;
    }

    public int drives(int bobber, int other, int apple) {
        lyingCount = 0;
        if (!isBobber(bobber) || !isBobber(other) || bobber == other || !isAfloat(apple)) {
            return NO_SUCH;
        }
        int tries = search.fewestDrives(now, bobber, other, apple);
        layAll(search.path, tries);
        return tries;
    }

    public int gone(int apples) {
        if (!isSet(apples) || (apples & ~afloatSet()) != 0) {
            return NO_SUCH;
        }
        return trials.goneWith(now, apples, MOST_GONE_TURNS);
    }

    public int provide(int n, int what) {
        if (n < 1 || n > MOST_GONE_TURNS || what < 0 || what > 1) {
            return NONE;
        }
        int afloat = afloatSet();
        for (int count = 1; count <= game.told.apples; count++) {
            for (int set = 1; set <= afloat; set++) {
                boolean isAsked = (set & ~afloat) == 0 && Integer.bitCount(set) == count;
                if (isAsked && trials.goneWith(now, set, n) == NONE) {
                    return what == 0 ? count : set;
                }
            }
        }
        return NONE;
    }

    public int nearest(int what, int k) {
        if (game.told.rules == 0 || what < 0 || what > 1) {
            return NONE;
        }
        int rule = 0;
        int fewest = picks.misfits(0, k);
        for (int other = 1; other < game.told.rules; other++) {
            int misfits = picks.misfits(other, k);
            if (misfits < fewest) {
                fewest = misfits;
                rule = other;
            }
        }
        return what == 0 ? rule : fewest;
    }

    public int waves(int apple, int x, int y) {
        lyingCount = 0;
        if (!isAfloat(apple) || !game.told.isCell(x, y)) {
            return NO_SUCH;
        }
        int count = search.fewestWaves(now, apple, x, y);
        layAll(search.path, count);
        return count;
    }

    public int fill(int bobber, int room, int what) {
        if (!isBobber(bobber) || room < 0 || room > MOST_ROOM || what < 0 || what > 1) {
            return NONE;
        }
        trials.fillRoom(now, bobber, afloatSet(), room);
        return what == 0 ? trials.fillSet : trials.fillLasts;
    }

    public int coin(int apple, int part) {
        if (!isApple(apple) || part < 0 || part > 1) {
            return NONE;
        }
        int all = 0;
        for (int other = 0; other < game.told.apples; other++) {
            if (isAfloat(other)) {
                all += game.told.coin[other];
            }
        }
        int own = isAfloat(apple) ? game.told.coin[apple] : 0;
        if (own == 0) {
            return part;
        }
        int common = commonDivisor(all, own);
        return (part == 0 ? own : all) / Math.max(1, common);
    }

    private static int commonDivisor(int a, int b) {
        for (int divisor = b; divisor > 1; divisor--) {
            if (a % divisor == 0 && b % divisor == 0) {
                return divisor;
            }
        }
        return 1;
    }

    public int lies(int i) {
        return i >= 0 && i < lyingCount ? lying[i] : NONE;
    }

    public int pick(int bobber, int apples, int taken) {
        if (!isBobber(bobber) || !isSet(apples) || !isApple(taken) || (apples >> taken & 1) == 0) {
            return NONE;
        }
        return picks.tell(bobber, apples, taken, time);
    }

    public boolean untell(int pick) {
        return picks.takeBack(pick, time);
    }

    public int later(int by) {
        if (by < 0 || by > MOST_LATER || time + by > LAST_TIME) {
            return NONE;
        }
        time += by;
        return time;
    }

    public int fits(int k) {
        int set = 0;
        for (int rule = 0; rule < game.told.rules; rule++) {
            if (picks.misfits(rule, k) == 0) {
                set |= 1 << rule;
            }
        }
        return set;
    }

    public long chance(int k) {
        return picks.oneIn(k);
    }

    public int image(int box) {
        if (box < 0 || box >= BOXES) {
            return NONE;
        }
        if (boxes[box] == null) {
            boxes[box] = new State();
        }
        boxes[box].copyAll(now);
        boxed[box] = true;
        return Integer.bitCount(afloatSet());
    }

    public int back(int box) {
        if (box < 0 || box >= BOXES || !boxed[box] || boxes[box] == null) {
            return NONE;
        }
        now.copyAll(boxes[box]);
        history.start(now);
        return Integer.bitCount(afloatSet());
    }

    public int about(int what) {
        switch (what) {
            case 0:
                return game.told.across;
            case 1:
                return game.told.up;
            case 2:
                return game.told.apples;
            case 3:
                return Integer.bitCount(afloatSet());
            case 4:
                return game.told.bobbers;
            case 5:
                return game.told.rules;
            case 6:
                return now.seed;
            case 7:
                return history.behind;
            case 8:
                return history.ahead;
            case 9:
                return picks.count;
            case 10:
                return time;
            case 11:
                return taped;
            case 12:
                return game.told.formulas.units;
            case 13:
                return lyingCount;
            default:
                return NONE;
        }
    }

    private boolean isApple(int apple) {
        return apple >= 0 && apple < game.told.apples;
    }

    private boolean isAfloat(int apple) {
        return isApple(apple) && now.holder[apple] == NONE;
    }

    private boolean isBobber(int bobber) {
        return bobber >= 0 && bobber < game.told.bobbers;
    }

    private boolean isRule(int rule) {
        return rule >= 0 && rule < game.told.rules;
    }

    private static boolean isKind(int kind) {
        return kind >= 0 && kind < KINDS;
    }

    private static boolean isTrialTurns(int n) {
        return n >= 1 && n <= MOST_TRIAL_TURNS;
    }

    private boolean isSet(int apples) {
        return apples >= 0 && apples < 1 << game.told.apples;
    }

    private int afloatSet() {
        int set = 0;
        for (int apple = 0; apple < game.told.apples; apple++) {
            if (isAfloat(apple)) {
                set |= 1 << apple;
            }
        }
        return set;
    }

    private boolean canTryNow(int bobber, int apple, int kind) {
        return isBobber(bobber) && isApple(apple) && isKind(kind) && game.canTry(now, bobber, apple, kind);
    }

    private void lay(int number) {
        if (lyingCount < MOST_LYING) {
            lying[lyingCount] = number;
            lyingCount++;
        }
    }

    private void layAll(int[] row, int count) {
        for (int i = 0; i < count && i < row.length; i++) {
            lay(row[i]);
        }
    }

    /** Cuts the tape into tokens one by one, so that faults come up in the order of their places. */
    private static final class Lexer {
        static final int W_TUB = 0;
        static final int W_BY = 1;
        static final int W_ODDS = 2;
        /** The words of the five kinds stand in the order of the kinds. */
        static final int W_FREE = 3;
        static final int W_STALK = 4;
        static final int W_WALL = 5;
        static final int W_RULE = 8;
        static final int W_APPLE = 9;
        static final int W_AT = 10;
        static final int W_SIZE = 11;
        static final int W_SOFT = 12;
        static final int W_COIN = 13;
        static final int W_BOBBER = 14;
        static final int W_REACH = 15;
        static final int W_BREATH = 16;
        static final int W_MOUTH = 17;
        static final int W_DRAW = 18;
        static final int W_BITE = 19;
        static final int W_FAR = 20;
        static final int W_TRIES = 21;
        static final int W_KIND = 22;
        static final int W_OR = 23;
        static final int W_AND = 24;
        static final int W_NOT = 25;
        static final int W_COUNT = 26;
        static final String WORDS = "tub by odds free stalk wall ground lean rule apple at size soft coin bobber reach breath mouth draw bite far tries kind or and not ";

        /** Behind the words' numbers and below the least sign, which is its own sort. */
        static final int NAME = 26;
        static final int NUMBER = 27;
        static final int THE_END = 28;
        static final int NO_TOKEN = 29;

        static final int MOST_LETTERS = 8;
        static final int MOST_DIGITS = 4;

        private final long[] words = new long[W_COUNT];
        private byte[] text = new byte[0];
        private int length;
        private int at;
        int sort;
        int place;
        int number;
        long name;

        Lexer() {
            int word = 0;
            long packed = 0;
            for (int i = 0; i < WORDS.length() && word < W_COUNT; i++) {
                char letter = WORDS.charAt(i);
                if (letter == ' ') {
                    words[word] = packed;
                    word++;
                    packed = 0;
                } else {
                    packed = packed * 32 + (letter - 'a' + 1);
                }
            }
        }

        void open(byte[] bytes, int count) {
            text = bytes;
            length = Math.min(count, bytes.length);
            at = 0;
            next();
        }

        void next() {
            while (at < length && (text[at] == ' ' || text[at] == 10)) {
                at++;
            }
            place = at;
            if (at >= length) {
                sort = THE_END;
            } else if (text[at] >= 'a' && text[at] <= 'z') {
                readWord();
            } else if (text[at] >= '0' && text[at] <= '9') {
                readNumber();
            } else {
                readSign();
            }
        }

        private void readWord() {
            name = 0;
            while (at < length && text[at] >= 'a' && text[at] <= 'z') {
                name = name * 32 + (text[at] - 'a' + 1);
                at++;
            }
            if (at - place > MOST_LETTERS) {
                sort = NO_TOKEN;
                return;
            }
            sort = NAME;
            for (int word = 0; word < W_COUNT; word++) {
                if (words[word] == name) {
                    sort = word;
                }
            }
        }

        private void readNumber() {
            number = 0;
            while (at < length && text[at] >= '0' && text[at] <= '9') {
                number = number * 10 + (text[at] - '0');
                at++;
            }
            boolean letterBehind = at < length && text[at] >= 'a' && text[at] <= 'z';
            sort = letterBehind || at - place > MOST_DIGITS ? NO_TOKEN : NUMBER;
        }

        private void readSign() {
            int sign = text[at];
            switch (sign) {
                case ';':
                case '(':
                case ')':
                case '<':
                case '>':
                case '=':
                case '+':
                case '-':
                case '*':
                case '/':
                case '%':
                    sort = sign;
                    at++;
                    break;
                default:
                    sort = NO_TOKEN;
                    break;
            }
        }
    }

    /** Reads a text into a tub's description. Every fault is one of the token at hand, so the first is found. */
    private static final class Reader {
        static final int NO_TOKEN = 1;
        static final int OUT_OF_PLACE = 2;
        static final int TOLD_ALREADY = 3;
        static final int WRONG_NUMBER = 4;
        static final int UNKNOWN_RULE = 5;
        static final int MOST_UNITS = 90;
        static final int MOST_UNITS_IN_ONE = 30;
        static final int MOST_OTHERS = 6;

        private final Lexer lexer = new Lexer();
        private final long[] ruleNames = new long[MOST_RULES];
        private final long[] appleNames = new long[MOST_APPLES];
        private final long[] bobberNames = new long[MOST_BOBBERS];
        private Told told;
        private boolean drawTold;
        private boolean biteTold;
        private int unitsHere;
        int fault;
        int place = NONE;

        Reader(Told first) {
            told = first;
        }

        boolean read(byte[] text, int length, Told into) {
            told = into;
            told.clear();
            drawTold = false;
            biteTold = false;
            fault = 0;
            place = NONE;
            lexer.open(text, length);
            boolean fine = true;
            for (int i = 0; i < TAPE_BYTES && fine && lexer.sort != Lexer.THE_END; i++) {
                fine = line();
            }
            return fine;
        }

        private boolean fail(int what) {
            fault = lexer.sort == Lexer.NO_TOKEN ? NO_TOKEN : what;
            place = lexer.place;
            return false;
        }

        private boolean line() {
            boolean isTub = lexer.sort == Lexer.W_TUB;
            boolean hasTub = told.across > 0;
            if (isTub == hasTub) {
                return fail(OUT_OF_PLACE);
            }
            switch (lexer.sort) {
                case Lexer.W_TUB:
                    return tubLine() && token(';');
                case Lexer.W_ODDS:
                    return oddsLine() && token(';');
                case Lexer.W_RULE:
                    return ruleLine() && token(';');
                case Lexer.W_APPLE:
                    return appleLine() && token(';');
                case Lexer.W_BOBBER:
                    return bobberLine() && token(';');
                case Lexer.W_DRAW:
                    return drawLine() && token(';');
                case Lexer.W_BITE:
                    return biteLine() && token(';');
                default:
                    return fail(OUT_OF_PLACE);
            }
        }

        private boolean token(int sort) {
            if (lexer.sort != sort) {
                return fail(OUT_OF_PLACE);
            }
            lexer.next();
            return true;
        }

        private boolean optional(int sort) {
            if (lexer.sort != sort) {
                return false;
            }
            lexer.next();
            return true;
        }

        /** The number at hand, or NONE with a fault: no number of the text may be below 0. */
        private int number(int least, int most) {
            if (lexer.sort != Lexer.NUMBER) {
                fail(OUT_OF_PLACE);
                return NONE;
            }
            int n = lexer.number;
            if (n < least || n > most) {
                fail(WRONG_NUMBER);
                return NONE;
            }
            lexer.next();
            return n;
        }

        private int numberBehind(int word, int least, int most) {
            return token(word) ? number(least, most) : NONE;
        }

        private boolean newName(long[] names, int count) {
            if (lexer.sort != Lexer.NAME || count >= names.length) {
                return fail(OUT_OF_PLACE);
            }
            if (indexOfName(names, count) != NONE) {
                return fail(TOLD_ALREADY);
            }
            names[count] = lexer.name;
            lexer.next();
            return true;
        }

        private int indexOfName(long[] names, int count) {
            for (int i = 0; i < count && i < names.length; i++) {
                if (names[i] == lexer.name) {
                    return i;
                }
            }
            return NONE;
        }

        private boolean tubLine() {
            lexer.next();
            int across = number(1, MOST_SIDE);
            if (across == NONE) {
                return false;
            }
            told.across = across;
            told.up = numberBehind(Lexer.W_BY, 1, MOST_SIDE);
            return told.up != NONE;
        }

        private boolean oddsLine() {
            lexer.next();
            int kind = lexer.sort - Lexer.W_FREE;
            if (kind < 0 || kind >= KINDS || told.formulas.isTold(kind)) {
                return fail(OUT_OF_PLACE);
            }
            lexer.next();
            return formula(kind);
        }

        private boolean ruleLine() {
            if (told.rules >= MOST_RULES) {
                return fail(OUT_OF_PLACE);
            }
            lexer.next();
            if (!newName(ruleNames, told.rules) || !formula(KINDS + told.rules)) {
                return false;
            }
            told.rules++;
            return true;
        }

        private boolean drawLine() {
            if (drawTold) {
                return fail(OUT_OF_PLACE);
            }
            drawTold = true;
            told.draw = numberBehind(Lexer.W_DRAW, 0, 999);
            return told.draw != NONE;
        }

        private boolean biteLine() {
            if (biteTold) {
                return fail(OUT_OF_PLACE);
            }
            biteTold = true;
            told.bite = numberBehind(Lexer.W_BITE, 0, 9);
            return told.bite != NONE;
        }

        private boolean appleLine() {
            int apple = told.apples;
            if (apple >= MOST_APPLES) {
                return fail(OUT_OF_PLACE);
            }
            lexer.next();
            if (!newName(appleNames, apple)) {
                return false;
            }
            int x = numberBehind(Lexer.W_AT, 0, told.across - 1);
            if (x == NONE || !isFreeCell(x)) {
                return false;
            }
            int y = number(0, told.up - 1);
            int size = y == NONE ? NONE : numberBehind(Lexer.W_SIZE, 1, 99);
            int soft = size == NONE ? NONE : numberBehind(Lexer.W_SOFT, 0, 9);
            if (soft == NONE) {
                return false;
            }
            told.x[apple] = x;
            told.y[apple] = y;
            told.size[apple] = size;
            told.soft[apple] = soft;
            told.stalk[apple] = optional(Lexer.W_STALK) ? 1 : 0;
            told.coin[apple] = lexer.sort == Lexer.W_COIN ? numberBehind(Lexer.W_COIN, 0, 99) : 1;
            told.apples++;
            return told.coin[apple] != NONE;
        }

        /** Asked while the second number is at hand, since that is where this fault lies. */
        private boolean isFreeCell(int x) {
            for (int other = 0; other < told.apples && lexer.sort == Lexer.NUMBER; other++) {
                if (told.x[other] == x && told.y[other] == lexer.number) {
                    return fail(TOLD_ALREADY);
                }
            }
            return true;
        }

        private boolean bobberLine() {
            int bobber = told.bobbers;
            if (bobber >= MOST_BOBBERS) {
                return fail(OUT_OF_PLACE);
            }
            lexer.next();
            if (!newName(bobberNames, bobber)) {
                return false;
            }
            int x = numberBehind(Lexer.W_AT, 0, told.across - 1);
            int y = x == NONE ? NONE : number(0, told.up - 1);
            int reach = y == NONE ? NONE : numberBehind(Lexer.W_REACH, 0, 5);
            int breath = reach == NONE ? NONE : numberBehind(Lexer.W_BREATH, 0, 20);
            int mouth = breath == NONE ? NONE : numberBehind(Lexer.W_MOUTH, 0, 9);
            if (mouth == NONE) {
                return false;
            }
            told.kneelX[bobber] = x;
            told.kneelY[bobber] = y;
            told.reach[bobber] = reach;
            told.breath[bobber] = breath;
            told.mouth[bobber] = mouth;
            told.by[bobber] = 0;
            told.bobbers++;
            return !optional(Lexer.W_BY) || ruleToldAhead(bobber);
        }

        private boolean ruleToldAhead(int bobber) {
            if (lexer.sort != Lexer.NAME) {
                return fail(OUT_OF_PLACE);
            }
            int rule = indexOfName(ruleNames, told.rules);
            if (rule == NONE) {
                return fail(UNKNOWN_RULE);
            }
            told.by[bobber] = rule;
            lexer.next();
            return true;
        }

        private boolean formula(int slot) {
            unitsHere = 0;
            told.formulas.begin(slot);
            boolean fine = either(0);
            told.formulas.finish(slot);
            return fine;
        }

        private boolean either(int others) {
            boolean fine = both(others);
            for (int i = 0; i < TAPE_BYTES && fine && lexer.sort == Lexer.W_OR; i++) {
                lexer.next();
                fine = both(others);
                told.formulas.addOperator(Lexer.W_OR);
            }
            return fine;
        }

        private boolean both(int others) {
            boolean fine = one(others);
            for (int i = 0; i < TAPE_BYTES && fine && lexer.sort == Lexer.W_AND; i++) {
                lexer.next();
                fine = one(others);
                told.formulas.addOperator(Lexer.W_AND);
            }
            return fine;
        }

        private boolean one(int others) {
            return lexer.sort == Lexer.W_NOT ? opposite(others) : comparison(others);
        }

        private boolean opposite(int others) {
            if (others > MOST_OTHERS) {
                return fail(OUT_OF_PLACE);
            }
            lexer.next();
            boolean fine = one(others + 1);
            told.formulas.addOperator(Lexer.W_NOT);
            return fine;
        }

        private boolean comparison(int others) {
            boolean fine = sum(others);
            int relation = lexer.sort;
            if (fine && (relation == '<' || relation == '>' || relation == '=')) {
                lexer.next();
                fine = sum(others);
                told.formulas.addOperator(relation);
            }
            return fine;
        }

        private boolean sum(int others) {
            boolean fine = term(others);
            for (int i = 0; i < TAPE_BYTES && fine && (lexer.sort == '+' || lexer.sort == '-'); i++) {
                int operator = lexer.sort;
                lexer.next();
                fine = term(others);
                told.formulas.addOperator(operator);
            }
            return fine;
        }

        private boolean term(int others) {
            boolean fine = unit(others);
            for (int i = 0; i < TAPE_BYTES && fine && isTermSign(lexer.sort); i++) {
                int operator = lexer.sort;
                lexer.next();
                fine = unit(others);
                told.formulas.addOperator(operator);
            }
            return fine;
        }

        private static boolean isTermSign(int sort) {
            return sort == '*' || sort == '/' || sort == '%';
        }

        private boolean unit(int others) {
            if (unitsHere >= MOST_UNITS_IN_ONE || told.formulas.units >= MOST_UNITS) {
                return fail(OUT_OF_PLACE);
            }
            unitsHere++;
            told.formulas.units++;
            if (lexer.sort == '(') {
                if (others > MOST_OTHERS) {
                    return fail(OUT_OF_PLACE);
                }
                lexer.next();
                if (!either(others + 1)) {
                    return false;
                }
                if (lexer.sort != ')') {
                    return fail(OUT_OF_PLACE);
                }
                lexer.next();
                return true;
            }
            int seen = Formulas.seenBy(lexer.sort);
            if (lexer.sort == Lexer.NUMBER) {
                told.formulas.addNumber(lexer.number);
            } else if (seen != NONE) {
                told.formulas.addSeen(seen);
            } else {
                return fail(OUT_OF_PLACE);
            }
            lexer.next();
            return true;
        }
    }

    /** All e's of a tub, each as a row of steps over a stack: slots 0 .. 4 the odds by kind, then the rules. */
    private static final class Formulas {
        static final int SIZE = 0;
        static final int SOFT = 1;
        static final int HAS_STALK = 2;
        static final int AT_WALL = 3;
        static final int FAR = 4;
        static final int TRIES = 5;
        static final int MOUTH = 6;
        static final int BREATH = 7;
        static final int KIND = 8;
        static final int ODDS = 9;
        static final int SEEN_COUNT = 10;

        static final int UNTOLD_ODDS = 50;
        /** 90 units and as many joints, and as many nots as a tape has room for. */
        static final int MOST_STEPS = 640;
        /** Numbers stand for themselves below these two. */
        static final int SEEN = 10000;
        static final int OPERATOR = 20000;
        static final int STACK = 32;

        private final int[] steps = new int[MOST_STEPS];
        private final int[] starts = new int[KINDS + MOST_RULES];
        private final int[] stops = new int[KINDS + MOST_RULES];
        private final int[] stack = new int[STACK];
        private int used;
        int units;

        Formulas() {
            clear();
        }

        /** The first step is what odds that are not told share. */
        void clear() {
            units = 0;
            steps[0] = UNTOLD_ODDS;
            used = 1;
            Arrays.fill(starts, 0);
            Arrays.fill(stops, 1);
        }

        boolean isTold(int slot) {
            return slot >= 0 && slot < starts.length && starts[slot] > 0;
        }

        void begin(int slot) {
            if (slot >= 0 && slot < starts.length) {
                starts[slot] = used;
            }
        }

        void finish(int slot) {
            if (slot >= 0 && slot < stops.length) {
                stops[slot] = used;
            }
        }

        void addNumber(int number) {
            add(number);
        }

        void addSeen(int seen) {
            add(SEEN + seen);
        }

        void addOperator(int operator) {
            add(OPERATOR + operator);
        }

        private void add(int step) {
            if (used < MOST_STEPS) {
                steps[used] = step;
                used++;
            }
        }

        static int seenBy(int word) {
            switch (word) {
                case Lexer.W_SIZE:
                    return SIZE;
                case Lexer.W_SOFT:
                    return SOFT;
                case Lexer.W_STALK:
                    return HAS_STALK;
                case Lexer.W_WALL:
                    return AT_WALL;
                case Lexer.W_FAR:
                    return FAR;
                case Lexer.W_TRIES:
                    return TRIES;
                case Lexer.W_MOUTH:
                    return MOUTH;
                case Lexer.W_BREATH:
                    return BREATH;
                case Lexer.W_KIND:
                    return KIND;
                case Lexer.W_ODDS:
                    return ODDS;
                default:
                    return NONE;
            }
        }

        int value(int slot, int[] sight) {
            if (slot < 0 || slot >= starts.length) {
                return 0;
            }
            int top = -1;
            for (int i = starts[slot]; i < stops[slot]; i++) {
                int step = steps[i];
                if (step < OPERATOR) {
                    if (top < STACK - 1) {
                        top++;
                        stack[top] = step < SEEN ? step : sight[step - SEEN];
                    }
                } else if (step == OPERATOR + Lexer.W_NOT) {
                    if (top >= 0) {
                        stack[top] = stack[top] == 0 ? 1 : 0;
                    }
                } else if (top >= 1) {
                    top--;
                    stack[top] = joined(step - OPERATOR, stack[top], stack[top + 1]);
                }
            }
            return top == 0 ? stack[0] : 0;
        }

        private static int joined(int operator, int a, int b) {
            switch (operator) {
                case '+':
                    return a + b;
                case '-':
                    return a - b;
                case '*':
                    return a * b;
                case '/':
                    return b == 0 ? 0 : a / b;
                case '%':
                    return b == 0 ? 0 : a % b;
                case '<':
                    return a < b ? 1 : 0;
                case '>':
                    return a > b ? 1 : 0;
                case '=':
                    return a == b ? 1 : 0;
                case Lexer.W_AND:
                    return a != 0 && b != 0 ? 1 : 0;
                default:
                    return a != 0 || b != 0 ? 1 : 0;
            }
        }
    }

    /** What a text tells: it stays as it is till another text is read. */
    private static final class Told {
        static final int UNTOLD_BITE = 10;

        int across;
        int up;
        int draw;
        int bite;
        int apples;
        final int[] x = new int[MOST_APPLES];
        final int[] y = new int[MOST_APPLES];
        final int[] size = new int[MOST_APPLES];
        final int[] soft = new int[MOST_APPLES];
        final int[] stalk = new int[MOST_APPLES];
        final int[] coin = new int[MOST_APPLES];
        int bobbers;
        final int[] kneelX = new int[MOST_BOBBERS];
        final int[] kneelY = new int[MOST_BOBBERS];
        final int[] reach = new int[MOST_BOBBERS];
        final int[] breath = new int[MOST_BOBBERS];
        final int[] mouth = new int[MOST_BOBBERS];
        final int[] by = new int[MOST_BOBBERS];
        int rules;
        final Formulas formulas = new Formulas();

        Told() {
            clear();
        }

        void clear() {
            across = 0;
            up = 0;
            draw = 0;
            bite = UNTOLD_BITE;
            apples = 0;
            bobbers = 0;
            rules = 0;
            formulas.clear();
        }

        boolean isCell(int cellX, int cellY) {
            return cellX >= 0 && cellX < across && cellY >= 0 && cellY < up;
        }

        boolean isRim(int cellX, int cellY) {
            return cellX == 0 || cellX == across - 1 || cellY == 0 || cellY == up - 1;
        }

        /** NONE without rules: then each try is worth the same. */
        int ruleOf(int bobber) {
            return rules == 0 ? NONE : by[bobber];
        }
    }

    /** What tries, breathing and waves change. A holder is NONE while the apple is afloat. */
    private static final class State {
        static final int RECORDS = 3;

        final int[] x = new int[MOST_APPLES];
        final int[] y = new int[MOST_APPLES];
        final int[] holder = new int[MOST_APPLES];
        final int[] missed = new int[MOST_APPLES];
        final int[] size = new int[MOST_APPLES];
        /** Where bobbers kneel is here too, since a seat is looked for by trials from other cells. */
        final int[] kneelX = new int[MOST_BOBBERS];
        final int[] kneelY = new int[MOST_BOBBERS];
        final int[] breath = new int[MOST_BOBBERS];
        final int[] got = new int[MOST_BOBBERS];
        final int[] seconds = new int[MOST_BOBBERS];
        final int[] records = new int[MOST_BOBBERS * KINDS * RECORDS];
        int seed;

        static int recordAt(int bobber, int kind) {
            return (bobber * KINDS + kind) * RECORDS;
        }

        void begin(Told told) {
            System.arraycopy(told.x, 0, x, 0, MOST_APPLES);
            System.arraycopy(told.y, 0, y, 0, MOST_APPLES);
            Arrays.fill(holder, NONE);
            Arrays.fill(missed, 0);
            System.arraycopy(told.size, 0, size, 0, MOST_APPLES);
            System.arraycopy(told.kneelX, 0, kneelX, 0, MOST_BOBBERS);
            System.arraycopy(told.kneelY, 0, kneelY, 0, MOST_BOBBERS);
            System.arraycopy(told.breath, 0, breath, 0, MOST_BOBBERS);
            Arrays.fill(got, 0);
            Arrays.fill(seconds, 0);
            Arrays.fill(records, 0);
            seed = told.draw;
        }

        /** All but the records, which no search and no trial asks for. */
        void copyPlay(State other) {
            System.arraycopy(other.x, 0, x, 0, MOST_APPLES);
            System.arraycopy(other.y, 0, y, 0, MOST_APPLES);
            System.arraycopy(other.holder, 0, holder, 0, MOST_APPLES);
            System.arraycopy(other.missed, 0, missed, 0, MOST_APPLES);
            System.arraycopy(other.size, 0, size, 0, MOST_APPLES);
            System.arraycopy(other.kneelX, 0, kneelX, 0, MOST_BOBBERS);
            System.arraycopy(other.kneelY, 0, kneelY, 0, MOST_BOBBERS);
            System.arraycopy(other.breath, 0, breath, 0, MOST_BOBBERS);
            System.arraycopy(other.got, 0, got, 0, MOST_BOBBERS);
            System.arraycopy(other.seconds, 0, seconds, 0, MOST_BOBBERS);
            seed = other.seed;
        }

        void copyAll(State other) {
            copyPlay(other);
            System.arraycopy(other.records, 0, records, 0, records.length);
        }
    }

    /** How tries, breathing, waves and turns go, on whichever state is given. */
    private static final class Game {
        Told told;
        private final int[] sight = new int[Formulas.SEEN_COUNT];
        private int stepX;
        private int stepY;

        Game(Told first) {
            told = first;
        }

        int far(State s, int bobber, int apple) {
            int across = Math.abs(s.x[apple] - s.kneelX[bobber]);
            int up = Math.abs(s.y[apple] - s.kneelY[bobber]);
            return Math.max(across, up);
        }

        int appleIn(State s, int x, int y) {
            for (int apple = 0; apple < told.apples; apple++) {
                if (s.holder[apple] == NONE && s.x[apple] == x && s.y[apple] == y) {
                    return apple;
                }
            }
            return NONE;
        }

        /** Which way he would push it: both steps are 0 if it is where he is. */
        private void aim(State s, int bobber, int apple) {
            int across = s.x[apple] - s.kneelX[bobber];
            int up = s.y[apple] - s.kneelY[bobber];
            boolean isAcross = Math.abs(across) >= Math.abs(up);
            stepX = isAcross ? Integer.signum(across) : 0;
            stepY = isAcross ? 0 : Integer.signum(up);
        }

        boolean reaches(State s, int bobber, int apple) {
            return s.holder[apple] == NONE && far(s, bobber, apple) <= told.reach[bobber];
        }

        /** Whether the kind is open to him, for an apple that he reaches. */
        private boolean allows(State s, int bobber, int apple, int kind) {
            if (s.breath[bobber] < TRY_BREATH[kind]) {
                return false;
            }
            switch (kind) {
                case STALK:
                    return told.stalk[apple] == 1;
                case WALL:
                    return told.isRim(s.x[apple], s.y[apple]);
                case LEAN:
                    aim(s, bobber, apple);
                    return (stepX != 0 || stepY != 0)
                        && appleIn(s, s.x[apple] + stepX, s.y[apple] + stepY) != NONE;
                default:
                    return true;
            }
        }

        boolean canTry(State s, int bobber, int apple, int kind) {
            return reaches(s, bobber, apple) && allows(s, bobber, apple, kind);
        }

        private void look(State s, int bobber, int apple) {
            sight[Formulas.SIZE] = s.size[apple];
            sight[Formulas.SOFT] = told.soft[apple];
            sight[Formulas.HAS_STALK] = told.stalk[apple];
            sight[Formulas.AT_WALL] = told.isRim(s.x[apple], s.y[apple]) ? 1 : 0;
            sight[Formulas.FAR] = far(s, bobber, apple);
            sight[Formulas.TRIES] = s.missed[apple];
            sight[Formulas.MOUTH] = told.mouth[bobber];
            sight[Formulas.BREATH] = s.breath[bobber];
            hideTry();
        }

        int oddsOf(State s, int bobber, int apple, int kind) {
            look(s, bobber, apple);
            return asOdds(told.formulas.value(kind, sight));
        }

        private static int asOdds(int value) {
            return Math.max(0, Math.min(100, value));
        }

        private int worthSeen(int rule, int kind) {
            if (rule == NONE) {
                return 0;
            }
            int odds = asOdds(told.formulas.value(kind, sight));
            sight[Formulas.KIND] = kind;
            sight[Formulas.ODDS] = odds;
            int worth = told.formulas.value(KINDS + rule, sight);
            hideTry();
            return worth;
        }

        /** Kind and odds are 0 while odds are reckoned; a rule alone sees them. */
        private void hideTry() {
            sight[Formulas.KIND] = 0;
            sight[Formulas.ODDS] = 0;
        }

        int worthOf(State s, int bobber, int apple, int rule) {
            look(s, bobber, apple);
            return worthSeen(rule, FREE);
        }

        /** 10 times the apple and the kind, or NONE: then he breathes. */
        int choose(State s, int bobber, int rule) {
            int chosen = NONE;
            int most = 0;
            for (int apple = 0; apple < told.apples; apple++) {
                if (!reaches(s, bobber, apple)) {
                    continue;
                }
                look(s, bobber, apple);
                for (int kind = 0; kind < KINDS; kind++) {
                    if (!allows(s, bobber, apple, kind)) {
                        continue;
                    }
                    int worth = worthSeen(rule, kind);
                    if (chosen == NONE || worth > most) {
                        chosen = 10 * apple + kind;
                        most = worth;
                    }
                }
            }
            return chosen;
        }

        boolean tryInEarnest(State s, int bobber, int apple, int kind) {
            look(s, bobber, apple);
            int odds = asOdds(told.formulas.value(kind, sight));
            s.seed = (s.seed * 137 + 71) % 1000;
            boolean gets = s.seed / 10 < odds;
            s.seconds[bobber] += TRY_SECONDS[kind];
            int record = State.recordAt(bobber, kind);
            s.records[record]++;
            s.records[record + 1] += gets ? 1 : 0;
            s.records[record + 2] += odds;
            if (gets) {
                getBy(s, bobber, apple, kind);
            } else {
                missBy(s, bobber, apple, kind);
            }
            return gets;
        }

        void getBy(State s, int bobber, int apple, int kind) {
            s.breath[bobber] -= TRY_BREATH[kind];
            s.holder[apple] = bobber;
            s.got[bobber]++;
        }

        void missBy(State s, int bobber, int apple, int kind) {
            s.breath[bobber] -= TRY_BREATH[kind];
            s.missed[apple]++;
            if (kind == FREE && told.soft[apple] >= told.bite) {
                s.size[apple] = Math.max(0, s.size[apple] - told.mouth[bobber] - 1);
                if (s.size[apple] == 0) {
                    s.holder[apple] = EATEN;
                    return;
                }
            }
            if (kind == FREE || kind == STALK) {
                aim(s, bobber, apple);
                push(s, apple);
            }
        }

        /** A row of apples is pushed as one, if a free cell is ahead of it. */
        private void push(State s, int apple) {
            if (stepX == 0 && stepY == 0) {
                return;
            }
            int x = s.x[apple];
            int y = s.y[apple];
            int row = 1;
            while (row < MOST_SIDE && appleIn(s, x + row * stepX, y + row * stepY) != NONE) {
                row++;
            }
            if (!told.isCell(x + row * stepX, y + row * stepY)) {
                return;
            }
            for (int i = row - 1; i >= 0; i--) {
                int pushed = appleIn(s, x + i * stepX, y + i * stepY);
                if (pushed != NONE) {
                    s.x[pushed] += stepX;
                    s.y[pushed] += stepY;
                }
            }
        }

        void takeBreath(State s, int bobber) {
            s.breath[bobber] = told.breath[bobber];
            s.seconds[bobber] += BREATHING_SECONDS;
        }

        /** Ranks run from that side on; within a rank no apple is in another's way. */
        int rock(State s, int side) {
            int moved = 0;
            for (int rank = 1; rank < MOST_SIDE; rank++) {
                for (int apple = 0; apple < told.apples; apple++) {
                    if (s.holder[apple] == NONE && rankFrom(s, side, apple) == rank) {
                        int x = s.x[apple] + SIDE_X[side];
                        int y = s.y[apple] + SIDE_Y[side];
                        if (appleIn(s, x, y) == NONE) {
                            s.x[apple] = x;
                            s.y[apple] = y;
                            moved++;
                        }
                    }
                }
            }
            return moved;
        }

        private int rankFrom(State s, int side, int apple) {
            switch (side) {
                case 0:
                    return s.x[apple];
                case 1:
                    return told.across - 1 - s.x[apple];
                case 2:
                    return told.up - 1 - s.y[apple];
                default:
                    return s.y[apple];
            }
        }

        /** How many he gets in his turn: 1 or 0. */
        int turnOf(State s, int bobber, int rule) {
            int chosen = choose(s, bobber, rule);
            if (chosen == NONE) {
                takeBreath(s, bobber);
                return 0;
            }
            return tryInEarnest(s, bobber, chosen / 10, chosen % 10) ? 1 : 0;
        }

        int turnOfAll(State s) {
            int got = 0;
            for (int bobber = 0; bobber < told.bobbers; bobber++) {
                got += turnOf(s, bobber, told.ruleOf(bobber));
            }
            return got;
        }

        boolean isEmpty(State s) {
            for (int apple = 0; apple < told.apples; apple++) {
                if (s.holder[apple] == NONE) {
                    return false;
                }
            }
            return true;
        }
    }

    /** The states behind the latest acts, in a ring: the one at hand, those before it and those taken back. */
    private static final class History {
        static final int MOST_KEPT = 40;
        static final int RING = MOST_KEPT + 1;

        private final State[] ring = new State[RING];
        private int oldest;
        int behind;
        int ahead;

        void start(State s) {
            oldest = 0;
            behind = 0;
            ahead = 0;
            atHand().copyAll(s);
        }

        void keep(State s) {
            if (behind < MOST_KEPT) {
                behind++;
            } else {
                oldest = (oldest + 1) % RING;
            }
            ahead = 0;
            atHand().copyAll(s);
        }

        boolean stepBack(State s) {
            if (behind == 0) {
                return false;
            }
            behind--;
            ahead++;
            s.copyAll(atHand());
            return true;
        }

        boolean stepOn(State s) {
            if (ahead == 0) {
                return false;
            }
            behind++;
            ahead--;
            s.copyAll(atHand());
            return true;
        }

        /** Made when it is first needed: most objects do few acts. */
        private State atHand() {
            int i = Math.floorMod(oldest + behind, RING);
            if (ring[i] == null) {
                ring[i] = new State();
            }
            return ring[i];
        }
    }

    /** Looks ahead step by step, with a state for each depth that is used again. */
    private static final class Search {
        static final int NOTHING = -1;
        static final int BREATHING = -2;
        static final int MOST_LOOKS = 20000;
        static final int MOST_DRIVES = 4;
        static final int MOST_WAVES = 6;
        static final int MOST_DEPTH = 8;
        static final int WHOLE_APPLE = 1000000;

        private final Game game;
        private final State[] levels = new State[MOST_DEPTH + 1];
        private int looks;
        boolean spent;
        int first;
        final int[] path = new int[MOST_DEPTH];
        /** Whom and what a path is looked for. */
        private int bobber;
        private int other;
        private int apple;
        private int goalX;
        private int goalY;

        Search(Game g) {
            game = g;
        }

        private State level(int depth) {
            int i = Math.max(0, Math.min(MOST_DEPTH, depth));
            if (levels[i] == null) {
                levels[i] = new State();
            }
            return levels[i];
        }

        private State nextLevel(int depth) {
            State next = level(depth + 1);
            next.copyPlay(level(depth));
            return next;
        }

        int bestAlone(State now, int who, int seconds) {
            level(0).copyPlay(now);
            bobber = who;
            looks = 0;
            spent = false;
            first = NOTHING;
            return bestFrom(0, seconds);
        }

        private int bestFrom(int depth, int left) {
            looks++;
            spent = spent || looks > MOST_LOOKS;
            if (spent || left <= 0 || depth >= MOST_DEPTH) {
                return 0;
            }
            State here = level(depth);
            int most = 0;
            int chosen = NOTHING;
            for (int tried = 0; tried < game.told.apples && !spent; tried++) {
                for (int kind = 0; kind < KINDS; kind++) {
                    if (TRY_SECONDS[kind] <= left && game.canTry(here, bobber, tried, kind)) {
                        int value = bestByTry(depth, left, tried, kind);
                        if (value > most) {
                            most = value;
                            chosen = 10 * tried + kind;
                        }
                    }
                }
            }
            if (left >= BREATHING_SECONDS && here.breath[bobber] < game.told.breath[bobber]) {
                int value = bestByBreathing(depth, left);
                if (value > most) {
                    most = value;
                    chosen = BREATHING;
                }
            }
            first = depth == 0 ? chosen : first;
            return most;
        }

        private int bestByTry(int depth, int left, int tried, int kind) {
            if (spent) {
                return 0;
            }
            int odds = game.oddsOf(level(depth), bobber, tried, kind);
            int rest = left - TRY_SECONDS[kind];
            game.getBy(nextLevel(depth), bobber, tried, kind);
            long behindGot = bestFrom(depth + 1, rest);
            game.missBy(nextLevel(depth), bobber, tried, kind);
            long behindMissed = bestFrom(depth + 1, rest);
            return (int) ((odds * (WHOLE_APPLE + behindGot) + (100 - odds) * behindMissed) / 100);
        }

        private int bestByBreathing(int depth, int left) {
            game.takeBreath(nextLevel(depth), bobber);
            return bestFrom(depth + 1, left - BREATHING_SECONDS);
        }

        int fewestDrives(State now, int from, int to, int what) {
            level(0).copyPlay(now);
            bobber = from;
            other = to;
            apple = what;
            for (int tries = 0; tries <= MOST_DRIVES; tries++) {
                if (drivesWithin(0, tries)) {
                    return tries;
                }
            }
            return NONE;
        }

        /**
         * A miss brings an apple one cell nearer at most, so what is further than that is given up; one that changes
         * nothing is passed over: without it the way would be shorter.
         */
        private boolean drivesWithin(int depth, int left) {
            State here = level(depth);
            if (left <= 0 || depth >= MOST_DRIVES) {
                return game.canTry(here, other, apple, FREE);
            }
            if (here.holder[apple] != NONE || game.far(here, other, apple) - game.told.reach[other] > left) {
                return false;
            }
            for (int tried = 0; tried < game.told.apples; tried++) {
                path[depth] = tried;
                if (game.canTry(here, bobber, tried, FREE) && drivesByMissing(depth, left, tried)) {
                    return true;
                }
            }
            return false;
        }

        private boolean drivesByMissing(int depth, int left, int tried) {
            State next = nextLevel(depth);
            game.missBy(next, bobber, tried, FREE);
            return isChanged(level(depth), next, tried) && drivesWithin(depth + 1, left - 1);
        }

        private static boolean isChanged(State here, State next, int tried) {
            return here.x[tried] != next.x[tried] || here.y[tried] != next.y[tried]
                || here.size[tried] != next.size[tried];
        }

        int fewestWaves(State now, int what, int x, int y) {
            level(0).copyPlay(now);
            apple = what;
            goalX = x;
            goalY = y;
            for (int count = 0; count <= MOST_WAVES; count++) {
                if (wavesWithin(0, count)) {
                    return count;
                }
            }
            return NONE;
        }

        /**
         * A wave brings an apple one cell nearer at most, so what is further than that is given up; one by which
         * nothing goes is passed over: without it the way would be shorter.
         */
        private boolean wavesWithin(int depth, int left) {
            State here = level(depth);
            int distance = Math.abs(here.x[apple] - goalX) + Math.abs(here.y[apple] - goalY);
            if (left <= 0 || depth >= MOST_WAVES || distance > left) {
                return distance == 0;
            }
            for (int side = 0; side < SIDES; side++) {
                path[depth] = side;
                if (wavesBySide(depth, left, side)) {
                    return true;
                }
            }
            return false;
        }

        private boolean wavesBySide(int depth, int left, int side) {
            return game.rock(nextLevel(depth), side) > 0 && wavesWithin(depth + 1, left - 1);
        }
    }

    /** Plays turns on a state of its own, from what is now, and compares how they end. */
    private static final class Trials {
        static final int MATCH_TURNS = 10;

        private final Game game;
        private final State trial = new State();
        private final int[] leads = new int[MOST_RULES * MOST_RULES];
        private final int[] tried = new int[MOST_BOBBERS];
        private final int[] lasts = new int[MOST_APPLES];
        final int[] bestOrder = new int[MOST_BOBBERS];
        int seatX;
        int seatY;
        int seatGets;
        int fillSet;
        int fillLasts;

        Trials(Game g) {
            game = g;
        }

        /** By how many the first of two bobbers gets more than the second. */
        int lead(State now, int one, int two) {
            trial.copyPlay(now);
            int more = 0;
            for (int turn = 0; turn < MATCH_TURNS; turn++) {
                more += game.turnOf(trial, 0, one);
                more -= game.turnOf(trial, 1, two);
            }
            return more;
        }

        void playAllPairs(State now) {
            for (int one = 0; one < game.told.rules; one++) {
                for (int two = 0; two < game.told.rules; two++) {
                    leads[one * MOST_RULES + two] = lead(now, one, two);
                }
            }
        }

        boolean isAtRest(int one, int two) {
            int here = leads[one * MOST_RULES + two];
            for (int rule = 0; rule < game.told.rules; rule++) {
                if (leads[rule * MOST_RULES + two] > here || leads[one * MOST_RULES + rule] < here) {
                    return false;
                }
            }
            return true;
        }

        void findSeat(State now, int bobber, int turns) {
            seatGets = NONE;
            for (int y = 0; y < game.told.up; y++) {
                for (int x = 0; x < game.told.across; x++) {
                    int gets = game.told.isRim(x, y) ? getsFrom(now, bobber, x, y, turns) : NONE;
                    if (gets > seatGets) {
                        seatGets = gets;
                        seatX = x;
                        seatY = y;
                    }
                }
            }
        }

        private int getsFrom(State now, int bobber, int x, int y, int turns) {
            trial.copyPlay(now);
            trial.kneelX[bobber] = x;
            trial.kneelY[bobber] = y;
            int gets = 0;
            for (int turn = 0; turn < turns; turn++) {
                gets += game.turnOf(trial, bobber, game.told.ruleOf(bobber));
            }
            return gets;
        }

        /** Orders are counted up as numbers whose digits are bobbers: so the first of like ones is found. */
        int findOrder(State now, int turns) {
            int bobbers = game.told.bobbers;
            int codes = 1;
            for (int i = 0; i < bobbers; i++) {
                codes *= bobbers;
            }
            int most = NONE;
            for (int code = 0; code < codes; code++) {
                if (isOrder(code, bobbers)) {
                    int got = gotInOrder(now, turns);
                    if (got > most) {
                        most = got;
                        System.arraycopy(tried, 0, bestOrder, 0, MOST_BOBBERS);
                    }
                }
            }
            return most;
        }

        private boolean isOrder(int code, int bobbers) {
            int rest = code;
            int seen = 0;
            for (int i = bobbers - 1; i >= 0; i--) {
                tried[i] = rest % bobbers;
                seen |= 1 << tried[i];
                rest /= bobbers;
            }
            return Integer.bitCount(seen) == bobbers;
        }

        private int gotInOrder(State now, int turns) {
            trial.copyPlay(now);
            int got = 0;
            for (int turn = 0; turn < turns; turn++) {
                for (int i = 0; i < game.told.bobbers; i++) {
                    got += game.turnOf(trial, tried[i], game.told.ruleOf(tried[i]));
                }
            }
            return got;
        }

        /** The turn behind which none of the set is in the tub, or NONE if that takes more turns. */
        int goneWith(State now, int set, int turns) {
            trial.copyPlay(now);
            for (int apple = 0; apple < game.told.apples; apple++) {
                if ((set >> apple & 1) == 0) {
                    trial.holder[apple] = EATEN;
                }
            }
            for (int turn = 0; turn <= turns; turn++) {
                if (game.isEmpty(trial)) {
                    return turn;
                }
                if (turn < turns) {
                    game.turnOfAll(trial);
                }
            }
            return NONE;
        }

        void fillRoom(State now, int bobber, int afloat, int room) {
            for (int apple = 0; apple < game.told.apples; apple++) {
                int odds = game.oddsOf(now, bobber, apple, FREE);
                lasts[apple] = odds == 0 ? NEVER_LASTS : 1000 / odds;
            }
            fillSet = 0;
            fillLasts = 0;
            for (int set = 1; set <= afloat; set++) {
                if ((set & ~afloat) == 0 && sumOf(now.size, set) <= room && sumOf(lasts, set) > fillLasts) {
                    fillSet = set;
                    fillLasts = sumOf(lasts, set);
                }
            }
        }

        private int sumOf(int[] row, int set) {
            int sum = 0;
            for (int apple = 0; apple < game.told.apples; apple++) {
                sum += (set >> apple & 1) == 0 ? 0 : row[apple];
            }
            return sum;
        }

        /** Whether the rule would take just this one of a set, free, with all as told. */
        boolean wouldTake(int rule, int bobber, int set, int taken) {
            trial.begin(game.told);
            int first = NONE;
            int most = 0;
            for (int apple = 0; apple < game.told.apples; apple++) {
                if ((set >> apple & 1) == 1) {
                    int worth = game.worthOf(trial, bobber, apple, rule);
                    if (first == NONE || worth > most) {
                        first = apple;
                        most = worth;
                    }
                }
            }
            return first == taken;
        }
    }

    /** What was seen to be taken, told at one time and perhaps untold at another. */
    private static final class Picks {
        static final int MOST_PICKS = 30;
        static final int NEVER = -1;
        static final long MOST_CHANCE = 1000000000000000L;

        private final Trials trials;
        private final int[] bobber = new int[MOST_PICKS];
        private final int[] set = new int[MOST_PICKS];
        private final int[] taken = new int[MOST_PICKS];
        private final int[] toldAt = new int[MOST_PICKS];
        private final int[] untoldAt = new int[MOST_PICKS];
        int count;

        Picks(Trials t) {
            trials = t;
        }

        void clear() {
            count = 0;
        }

        int tell(int who, int apples, int what, int time) {
            if (count >= MOST_PICKS) {
                return NONE;
            }
            bobber[count] = who;
            set[count] = apples;
            taken[count] = what;
            toldAt[count] = time;
            untoldAt[count] = NEVER;
            count++;
            return count - 1;
        }

        boolean takeBack(int i, int time) {
            if (i < 0 || i >= count || untoldAt[i] != NEVER) {
                return false;
            }
            untoldAt[i] = time;
            return true;
        }

        private boolean isKnown(int i, int k) {
            return toldAt[i] <= k && (untoldAt[i] == NEVER || untoldAt[i] > k);
        }

        int misfits(int rule, int k) {
            int misfits = 0;
            for (int i = 0; i < count; i++) {
                if (isKnown(i, k) && !trials.wouldTake(rule, bobber[i], set[i], taken[i])) {
                    misfits++;
                }
            }
            return misfits;
        }

        long oneIn(int k) {
            long product = 1;
            for (int i = 0; i < count; i++) {
                if (isKnown(i, k)) {
                    product = Math.min(MOST_CHANCE, product * Integer.bitCount(set[i]));
                }
            }
            return product;
        }
    }
}
