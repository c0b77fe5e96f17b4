import java.util.NoSuchElementException;

/**
 * The queen that's left over: people with fans of cards round a table, told by a text or dealt by a seed,
 * and what comes of it by their rules, by blind draws, and by what somebody has seen.
 */
public final class SootQueen {
    /** There is none. */
    public static final int NONE = -1;

    private static final int SPENT = -2;
    private static final int FIRST_PLACE = -2;
    private static final int LONGEST_EVENING = -2;
    private static final int MOST_BY_LEAST = -3;

    private static final int MOST_PEOPLE = 6;
    private static final int MOST_PAIRS = 9;
    private static final int MOST_CARDS = 10;
    private static final int DECK = 19;
    private static final int WEIGHTS = 6;
    private static final int QUEEN = 0;
    private static final int ASIDE = 100;

    private static final int TAPE = 600;
    private static final int KEPT = 60;
    private static final int MOST_DRAWS = 200;
    private static final int MOST_BLIND = 4;
    private static final int WIDEST_BLIND = 9;
    private static final int MOST_TRIES = 20000;
    private static final int MOST_EVENINGS = 60;
    private static final int MOST_ORDERS = 120;
    private static final int MOST_VALUES_OF_TWO = 13;
    private static final int PEEPS = 12;

    private static final int LAW_AHEAD = 1;
    private static final int LAW_SHOWN = 2;

    private static final int END = -1;
    private static final int NO_TOKEN = 0;
    private static final int WORD = 'a';
    private static final int NUMBER = '0';
    private static final int MOST_DIGITS = 4;
    private static final int MOST_NUMBER = 9999;

    private static final int LINE_PEOPLE = 0;
    private static final int LINE_PAIRS = 1;
    private static final int LINE_SEED = 2;
    private static final int LINE_FAN = 3;
    private static final int LINE_DRAWS = 4;
    private static final int LINE_HOLDS = 5;
    private static final int LINE_HABITS = 6;
    private static final int LINES = 7;

    private static final int RULE_DRAWS = 0;
    private static final int RULE_HOLDS = 6;
    private static final int RULES = 12;
    private static final int DEEPEST = 6;
    private static final int MOST_NOTS = 6;
    private static final int STACK = 128;

    // A rule's codes: a number stands for itself, what is below 0 for a value or something that is done.
    private static final int SIZE = -1;
    private static final int OWN = -2;
    private static final int TURN = -3;
    private static final int ME = -4;
    private static final int LAST = -5;
    private static final int CARD = -6;
    private static final int OR = -11;
    private static final int AND = -12;
    private static final int NOT = -13;
    private static final int LESS = -14;
    private static final int SAME = -15;
    private static final int PLUS = -16;
    private static final int MINUS = -17;
    private static final int TIMES = -18;
    private static final int BY = -19;
    private static final int OPEN = -20;
    private static final int NO_CODE = -21;

    private final int[] tape = new int[TAPE];
    private Told told = new Told();
    private Told draft = new Told();
    private final Reader reader = new Reader(draft);
    private final Log log = new Log();
    private final Log imageLog = new Log();
    private final Game game = new Game(told);
    private final Game beginning = new Game(told);
    private final Game imageGame = new Game(told);
    private final Game trial = new Game(told);
    private final Draw trialDraw = new Draw();
    private final Played played = new Played();
    private final Outlook outlook = new Outlook(told);
    private final Belief beliefs = new Belief(log);
    private boolean imaged;
    private int tapeSize;
    private int faultPlace = NONE;
    private int refusedTexts;
    private int refusedDraws;

    public SootQueen() {
        lay();
    }

    public int feed(int a, int b, int c, int d, int e) {
        if (tapeSize > TAPE - 20) {
            return NONE;
        }
        append(a);
        append(b);
        append(c);
        append(d);
        append(e);
        return tapeSize;
    }

    public int table(int n) throws IllegalArgumentException {
        if (n < 0 || n > tapeSize) {
            throw new IllegalArgumentException();
        }
        int fault = reader.read(draft, tape, n);
        tapeSize = 0;
        if (fault != 0) {
            faultPlace = reader.place;
            refusedTexts++;
            return fault;
        }
        faultPlace = NONE;
        Told before = told;
        told = draft;
        draft = before;
        lay();
        return 0;
    }

    public int fault() {
        return faultPlace;
    }

    public int count(int what) throws NoSuchElementException {
        switch (what) {
            case 0: return told.people;
            case 1: return told.pairs;
            case 2: return told.seed;
            case 3: return game.over() ? NONE : game.turn;
            case 4: return game.done;
            case 5: return log.size;
            case 6: return game.queenHolder();
            case 7: return game.loser();
            case 8: return tapeSize;
            case 9: return refusedTexts;
            case 10: return refusedDraws;
            default: throw new NoSuchElementException();
        }
    }

    public int fan(int person, int place) throws NoSuchElementException {
        needPerson(person);
        Fan fan = game.fanAt(person);
        if (place == NONE) {
            return fan.size;
        }
        need(fan.hasPlace(place));
        return fan.card(place);
    }

    public int person(int person, int what) throws NoSuchElementException {
        needPerson(person);
        need(what >= 0 && what <= 7);
        if (what >= 2) {
            return told.weight(person, what - 2);
        }
        if (game.over() || game.isEmpty(person)) {
            return NONE;
        }
        return what == 0 ? game.source(person) : game.rulePlace(person);
    }

    public int draw(int place) {
        if (game.over() || !game.fanAt(game.source(game.turn)).hasPlace(place)) {
            refusedDraws++;
            return NONE;
        }
        Draw done = log.fresh();
        game.step(place, done);
        return done.aside ? done.card + ASIDE : done.card;
    }

    public int play(int draws) throws IllegalArgumentException {
        needArgument(draws >= 0 && draws <= MOST_DRAWS);
        int done = 0;
        while (done < draws && !game.over()) {
            game.step(game.placeNow(), log.fresh());
            done++;
        }
        return done;
    }

    public int undo() {
        if (log.size <= 0) {
            return NONE;
        }
        game.takeBack(log.at(log.size - 1));
        log.dropLast();
        return log.size;
    }

    public int ends(int what) throws NoSuchElementException {
        need(what == 0 || what == 1);
        playFromNow();
        return what == 0 ? played.loser : played.draws;
    }

    public int has(int person, boolean longest) throws NoSuchElementException {
        needPerson(person);
        playFromNow();
        return played.behind(person, longest);
    }

    public long blind(int person, int n, int what) throws NoSuchElementException, IllegalArgumentException {
        needPerson(person);
        need(what >= 0 && what <= 5);
        needArgument(n >= 0 && n <= MOST_BLIND);
        if (!outlook.spread(game, person, n)) {
            return SPENT;
        }
        long upper = what < 2 ? outlook.withQueen : what < 4 ? outlook.out : outlook.lost;
        return lowest(upper, outlook.whole, what == 0 || what == 2 || what == 4);
    }

    public long two(int k, boolean queen, int what) throws NoSuchElementException, IllegalArgumentException {
        need(what == 0 || what == 1);
        needArgument(k >= 0 && k <= MOST_VALUES_OF_TWO);
        if (k == 0) {
            return queen || what == 1 ? 1 : 0;
        }
        return queen ? twoWithQueen(k, what == 0) : twoWithout(k, what == 0);
    }

    public int belief(int person, int who) throws NoSuchElementException {
        needPerson(person);
        need(who == NONE || isPerson(who));
        if (!believe(person, NONE)) {
            return SPENT;
        }
        return who == NONE ? beliefs.all : beliefs.holding(who);
    }

    public long peeped(int person, int what) throws NoSuchElementException {
        needPerson(person);
        need(what >= 0 && what <= 3);
        long upper = 1;
        long lower = 1;
        int many = 0;
        int took = 0;
        for (int i = log.size - 1; i >= 0; i--) {
            Draw done = log.at(i);
            if (done.drawer == person && done.withQueen) {
                if (many < PEEPS) {
                    upper *= done.size - 1;
                    lower *= done.size;
                }
                many++;
                took += done.card == QUEEN ? 1 : 0;
            }
        }
        if (what >= 2) {
            return what == 2 ? many : took;
        }
        return lowest(upper, lower, what == 0);
    }

    public int hold(int drawer, int size, int what) throws NoSuchElementException, IllegalArgumentException {
        needPerson(drawer);
        need(what >= 0 && what <= 2);
        needArgument(size >= 1 && size <= WEIGHTS);
        int best = 0;
        int sum = 0;
        for (int i = 0; i < size; i++) {
            sum += told.weight(drawer, i);
            best = told.weight(drawer, i) > told.weight(drawer, best) ? i : best;
        }
        if (what == 0) {
            return best;
        }
        return (int) lowest(told.weight(drawer, best), sum == 0 ? 1 : sum, what == 1);
    }

    public int choose(int person, int what) throws NoSuchElementException {
        needPerson(person);
        need(what == 0 || what == 1);
        if (game.over() || game.isEmpty(person)) {
            return NONE;
        }
        int from = game.source(person);
        if (!believe(person, from)) {
            return SPENT;
        }
        int best = 0;
        for (int i = 1; i < game.fanAt(from).size; i++) {
            best = beliefs.queenAt(i) < beliefs.queenAt(best) ? i : best;
        }
        return what == 0 ? best : beliefs.queenAt(best);
    }

    public int seats(int person, int what) throws NoSuchElementException {
        needPerson(person);
        need(what >= 0 && what <= 2);
        outlook.trySeats(game, person);
        if (what == 2) {
            return outlook.firstOrder;
        }
        return what == 0 ? outlook.losses(person) : outlook.notOver;
    }

    public int evenings(int seed, int many, int laws, boolean blind, int who)
            throws NoSuchElementException, IllegalArgumentException {
        need(who == NONE || who == LONGEST_EVENING || who == MOST_BY_LEAST || isPerson(who));
        needArgument(many >= 0 && many <= MOST_EVENINGS);
        needArgument(laws >= 0 && laws <= (LAW_AHEAD | LAW_SHOWN));
        outlook.begin();
        for (int i = 0; i < many; i++) {
            trial.open(told, laws, blind);
            trial.deal(seed + i);
            outlook.playOut(trial);
        }
        if (who == MOST_BY_LEAST) {
            return outlook.mostByLeast(told.people);
        }
        if (who == LONGEST_EVENING) {
            return outlook.longest;
        }
        return who == NONE ? outlook.notOver : outlook.losses(who);
    }

    public int wouldLose(int place) throws NoSuchElementException {
        need(!game.over());
        Fan from = game.fanAt(game.source(game.turn));
        need(place == NONE || place == FIRST_PLACE || from.hasPlace(place));
        if (place >= 0) {
            return loserIf(place);
        }
        int many = 0;
        int first = NONE;
        for (int i = 0; i < from.size; i++) {
            int loser = loserIf(i);
            if (loser != NONE && loser != game.turn) {
                many++;
                first = first == NONE ? i : first;
            }
        }
        return place == NONE ? many : first;
    }

    public int isOut(int person) throws NoSuchElementException {
        needPerson(person);
        playFromNow();
        return played.outBehind(person);
    }

    public int rank(int person) throws NoSuchElementException {
        needPerson(person);
        playFromNow();
        int his = played.outBehind(person);
        if (his == NONE) {
            return NONE;
        }
        int ahead = 0;
        for (int i = 0; i < told.people; i++) {
            int other = played.outBehind(i);
            if (other != NONE && (other < his || other == his && i < person)) {
                ahead++;
            }
        }
        return ahead;
    }

    public int habit(int person, int what) throws NoSuchElementException {
        needPerson(person);
        need(what >= 0 && what <= 9);
        if (what <= 6) {
            return drawnAt(person, what);
        }
        if (what == 7) {
            return favourite(person);
        }
        int many = 0;
        for (int i = 0; i < log.size; i++) {
            Draw done = log.at(i);
            if (done.from == person && done.withQueen && (what == 8 || done.card == QUEEN)) {
                many++;
            }
        }
        return many;
    }

    public int face(int size, int high, int what) throws NoSuchElementException, IllegalArgumentException {
        need(what >= 0 && what <= 4);
        needArgument(size >= 2 && size <= 6);
        needArgument(high >= 0 && high <= 100);
        if (what == 4) {
            return high * (size - 1) >= 100 - high ? 0 : 1;
        }
        if (what < 2) {
            return (int) lowest(high, 100, what == 0);
        }
        return (int) lowest(100 - high, 100 * (size - 1), what == 2);
    }

    public void image() {
        imageGame.copyFrom(game);
        imageLog.copyFrom(log);
        imaged = true;
    }

    public boolean restore() {
        if (!imaged) {
            return false;
        }
        game.copyFrom(imageGame);
        log.copyFrom(imageLog);
        return true;
    }

    /** The table as it is told now, with nothing drawn yet. */
    private void lay() {
        game.open(told, 0, false);
        if (told.fansTold) {
            game.takeTold();
        } else {
            game.deal(told.seed);
        }
        beginning.copyFrom(game);
        log.clear();
        imaged = false;
    }

    private void append(int number) {
        for (int shift = 24; shift >= 0 && tapeSize < TAPE; shift -= 8) {
            tape[tapeSize] = number >>> shift & 255;
            tapeSize++;
        }
    }

    private boolean isPerson(int person) {
        return person >= 0 && person < told.people;
    }

    private void needPerson(int person) {
        need(isPerson(person));
    }

    private static void need(boolean there) {
        if (!there) {
            throw new NoSuchElementException();
        }
    }

    private static void needArgument(boolean fine) {
        if (!fine) {
            throw new IllegalArgumentException();
        }
    }

    private void playFromNow() {
        trial.copyFrom(game);
        played.watch(trial);
    }

    private int loserIf(int place) {
        trial.copyFrom(game);
        trial.step(place, trialDraw);
        played.watch(trial);
        return played.loser;
    }

    private boolean believe(int person, int watched) {
        return log.size == game.done && beliefs.weigh(beginning, log, person, watched);
    }

    private int drawnAt(int person, int place) {
        int many = 0;
        for (int i = 0; i < log.size; i++) {
            Draw done = log.at(i);
            if (done.drawer == person && Math.min(done.place, 6) == place) {
                many++;
            }
        }
        return many;
    }

    private int favourite(int person) {
        int best = NONE;
        int most = 0;
        for (int i = 0; i <= 6; i++) {
            int many = drawnAt(person, i);
            if (many > most) {
                most = many;
                best = i;
            }
        }
        return best;
    }

    /**
     * He whose turn it is has no queen. Drawing her (1 of k and 1) changes their parts, drawing another
     * card leaves k less 1, where the other one draws for sure a pair, leaving k less 2 to him again:
     * so b(k) is (1 + k b(k - 2)) / (k + 2).
     */
    private static long twoWithout(int k, boolean upperPart) {
        boolean odd = (k & 1) == 1;
        long upper = odd ? 1 : 0;
        long lower = odd ? 3 : 1;
        for (int i = odd ? 3 : 2; i <= k; i += 2) {
            upper = lower + i * upper;
            lower = lower * (i + 2);
        }
        return lowest(upper, lower, upperPart);
    }

    /** He draws a pair for sure, and the other one, whose turn it is then, loses where he doesn't. */
    private static long twoWithQueen(int k, boolean upperPart) {
        long lower = twoWithout(k - 1, false);
        return lowest(lower - twoWithout(k - 1, true), lower, upperPart);
    }

    /** One part of a fraction in lowest terms. */
    private static long lowest(long upper, long lower, boolean upperPart) {
        long a = lower;
        long b = upper;
        for (int i = 0; i < 200 && b != 0; i++) {
            long rest = a % b;
            a = b;
            b = rest;
        }
        long part = upperPart ? upper : lower;
        return a == 0 ? part : part / a;
    }

    /** A row of cards, place 0 at the left. */
    private static final class Fan {
        private final int[] cards = new int[MOST_CARDS];
        private int size;

        boolean hasPlace(int place) {
            return place >= 0 && place < size;
        }

        int card(int place) {
            return place >= 0 && place < size && place < cards.length ? cards[place] : NONE;
        }

        int placeOf(int card) {
            for (int i = 0; i < size && i < cards.length; i++) {
                if (cards[i] == card) {
                    return i;
                }
            }
            return NONE;
        }

        void putIn(int place, int card) {
            if (place < 0 || place > size || size >= cards.length) {
                return;
            }
            for (int i = size; i > place; i--) {
                cards[i] = cards[i - 1];
            }
            cards[place] = card;
            size++;
        }

        void takeOut(int place) {
            if (place < 0 || place >= size || size > cards.length) {
                return;
            }
            for (int i = place + 1; i < size; i++) {
                cards[i - 1] = cards[i];
            }
            size--;
        }

        void clear() {
            size = 0;
        }

        void copyFrom(Fan other) {
            for (int i = 0; i < other.size && i < cards.length; i++) {
                cards[i] = other.cards[i];
            }
            size = other.size;
        }
    }

    /** One draw as it went. */
    private static final class Draw {
        private int drawer;
        private int from;
        private int place;
        private int size;
        private boolean withQueen;
        private int card;
        private boolean aside;
        // Where the card was put, or where the one stood with which it was laid aside.
        private int ownPlace;
        private int lastBefore;

        void copyFrom(Draw other) {
            drawer = other.drawer;
            from = other.from;
            place = other.place;
            size = other.size;
            withQueen = other.withQueen;
            card = other.card;
            aside = other.aside;
            ownPlace = other.ownPlace;
            lastBefore = other.lastBefore;
        }
    }

    /** The latest draws; the rows go round, so that nothing is made while drawing. */
    private static final class Log {
        private final Draw[] rows = new Draw[KEPT];
        private final Draw nothing = new Draw();
        private int first;
        private int size;

        Log() {
            for (int i = 0; i < KEPT; i++) {
                rows[i] = new Draw();
            }
        }

        Draw fresh() {
            if (size < KEPT) {
                size++;
            } else {
                first = first + 1 < KEPT ? first + 1 : 0;
            }
            return at(size - 1);
        }

        Draw at(int index) {
            int row = first + index;
            row = row >= KEPT ? row - KEPT : row;
            return row >= 0 && row < KEPT ? rows[row] : nothing;
        }

        void dropLast() {
            size = size > 0 ? size - 1 : 0;
        }

        void clear() {
            first = 0;
            size = 0;
        }

        void copyFrom(Log other) {
            for (int i = 0; i < KEPT; i++) {
                rows[i].copyFrom(other.rows[i]);
            }
            first = other.first;
            size = other.size;
        }
    }

    /** What a text tells of a table. */
    private static final class Told {
        private final Fan[] fans = new Fan[MOST_PEOPLE];
        private final int[] weights = new int[MOST_PEOPLE * WEIGHTS];
        // The codes of all rules stand in one row, as all of them come from one text.
        private final int[] codes = new int[TAPE];
        private final int[] ruleStart = new int[RULES];
        private final int[] ruleEnd = new int[RULES];
        private final int[] stack = new int[STACK];
        private int people;
        private int pairs;
        private int seed;
        private int codeCount;
        private boolean fansTold;

        Told() {
            for (int i = 0; i < MOST_PEOPLE; i++) {
                fans[i] = new Fan();
            }
            clear();
        }

        void clear() {
            people = 3;
            pairs = 5;
            seed = 0;
            codeCount = 0;
            fansTold = false;
            for (int i = 0; i < MOST_PEOPLE; i++) {
                fans[i].clear();
            }
            for (int i = 0; i < weights.length; i++) {
                weights[i] = 0;
            }
            for (int i = 0; i < RULES; i++) {
                ruleStart[i] = 0;
                ruleEnd[i] = 0;
            }
        }

        int weight(int person, int place) {
            int at = person * WEIGHTS + place;
            return at >= 0 && at < weights.length ? weights[at] : 0;
        }

        void setWeight(int person, int place, int weight) {
            int at = person * WEIGHTS + place;
            if (at >= 0 && at < weights.length) {
                weights[at] = weight;
            }
        }

        void emit(int code) {
            if (codeCount >= 0 && codeCount < codes.length) {
                codes[codeCount] = code;
                codeCount++;
            }
        }

        void setRule(int rule, int start) {
            if (rule >= 0 && rule < RULES) {
                ruleStart[rule] = start;
                ruleEnd[rule] = codeCount;
            }
        }

        boolean hasRule(int rule) {
            return rule >= 0 && rule < RULES && ruleStart[rule] < ruleEnd[rule];
        }

        /** What a rule gives; seen has what it may name, in the order of the codes. */
        int answer(int rule, int[] seen) {
            int start = rule >= 0 && rule < RULES ? ruleStart[rule] : 0;
            int end = rule >= 0 && rule < RULES ? ruleEnd[rule] : 0;
            int top = 0;
            for (int i = start; i >= 0 && i < end && i < codes.length; i++) {
                int code = codes[i];
                if (code >= CARD) {
                    if (top < stack.length) {
                        stack[top] = code >= 0 ? code : seenAs(code, seen);
                        top++;
                    }
                } else if (code == NOT) {
                    if (top >= 1) {
                        stack[top - 1] = stack[top - 1] == 0 ? 1 : 0;
                    }
                } else if (top >= 2) {
                    stack[top - 2] = done(code, stack[top - 2], stack[top - 1]);
                    top--;
                }
            }
            return top >= 1 ? stack[top - 1] : 0;
        }

        private static int seenAs(int code, int[] seen) {
            int at = -1 - code;
            return at >= 0 && at < seen.length ? seen[at] : 0;
        }

        private static int done(int code, int a, int b) {
            switch (code) {
                case OR: return a != 0 || b != 0 ? 1 : 0;
                case AND: return a != 0 && b != 0 ? 1 : 0;
                case LESS: return a < b ? 1 : 0;
                case SAME: return a == b ? 1 : 0;
                case PLUS: return a + b;
                case MINUS: return a - b;
                case TIMES: return a * b;
                default: return b == 0 ? 0 : a / b;
            }
        }
    }

    /** The tokens of a text, one at a time. */
    private static final class Tokens {
        private int[] text = new int[0];
        private int length;
        private int start;
        private int behind;
        private int kind = END;
        private int number;

        void open(int[] newText, int newLength) {
            text = newText;
            length = Math.min(newLength, newText.length);
            behind = 0;
            next();
        }

        void next() {
            start = behind;
            while (start < length && (signAt(start) == ' ' || signAt(start) == '\n')) {
                start++;
            }
            behind = start;
            if (start >= length) {
                kind = END;
            } else if (isLetter(signAt(start))) {
                kind = WORD;
                while (behind < length && isLetter(signAt(behind))) {
                    behind++;
                }
            } else if (isDigit(signAt(start))) {
                kind = NUMBER;
                readNumber();
            } else {
                kind = isSign(signAt(start)) ? signAt(start) : NO_TOKEN;
                behind++;
            }
        }

        boolean isTooLong() {
            return behind - start > MOST_DIGITS;
        }

        boolean isWord(String word) {
            if (kind != WORD || behind - start != word.length()) {
                return false;
            }
            for (int i = 0; i < word.length(); i++) {
                int at = start + i;
                if (at < 0 || at >= text.length || text[at] != word.charAt(i)) {
                    return false;
                }
            }
            return true;
        }

        private void readNumber() {
            number = 0;
            while (behind < length && isDigit(signAt(behind))) {
                number = number * 10 + signAt(behind) - '0';
                behind++;
            }
        }

        private int signAt(int at) {
            return at >= 0 && at < text.length ? text[at] : 0;
        }

        private static boolean isLetter(int sign) {
            return sign >= 'a' && sign <= 'z';
        }

        private static boolean isDigit(int sign) {
            return sign >= '0' && sign <= '9';
        }

        private static boolean isSign(int sign) {
            switch (sign) {
                case ';': case '(': case ')': case '+': case '-':
                case '*': case '/': case '<': case '=': return true;
                default: return false;
            }
        }
    }

    /**
     * Makes codes of an expression. What waits for its right side stands on a stack, so that nothing
     * here calls itself, however deep the parentheses go.
     */
    private static final class Compiler {
        private final int[] waiting = new int[STACK];
        private int top;
        private int open;
        private boolean partMustStand;
        private final Tokens tokens;
        private Told told;

        Compiler(Tokens tokens, Told told) {
            this.tokens = tokens;
            this.told = told;
        }

        /** The fault at the token that is read now, or 0, that token being the ; behind it all. */
        int compile(Told into, int rule) {
            told = into;
            top = 0;
            open = 0;
            partMustStand = true;
            int start = told.codeCount;
            tokens.next();
            for (int i = 0; i <= TAPE; i++) {
                if (!partMustStand && open == 0 && tokens.kind == ';') {
                    settle(1);
                    told.setRule(rule, start);
                    return 0;
                }
                int fault = partMustStand ? part() : behindPart();
                if (fault != 0) {
                    return fault;
                }
                tokens.next();
            }
            return 1;
        }

        private int part() {
            if (tokens.kind != NUMBER && tokens.kind != WORD && tokens.kind != '(') {
                return 1;
            }
            if (open >= DEEPEST) {
                return 2;
            }
            if (tokens.kind == '(') {
                push(OPEN);
                open++;
                return 0;
            }
            if (tokens.isWord("not") && level(waitingAt(top - 1)) <= level(NOT)) {
                return pushNot();
            }
            int code = tokens.kind == NUMBER ? tokens.number : valueCode();
            if (tokens.kind == NUMBER && tokens.isTooLong()) {
                return 2;
            }
            if (tokens.kind == WORD && code == NO_CODE) {
                return 3;
            }
            told.emit(code);
            partMustStand = false;
            return 0;
        }

        private int pushNot() {
            int nots = 0;
            while (nots < top && waitingAt(top - 1 - nots) == NOT) {
                nots++;
            }
            if (nots >= MOST_NOTS) {
                return 2;
            }
            push(NOT);
            return 0;
        }

        private int behindPart() {
            if (tokens.kind == ')' && open > 0) {
                settle(1);
                top--;
                open--;
                return 0;
            }
            int code = operatorCode();
            if (code == NO_CODE) {
                return 1;
            }
            // Of two tests side by side the second can't stand, so the first is left waiting to be seen.
            settle(isTest(code) ? level(code) + 1 : level(code));
            if (isTest(code) && isTest(waitingAt(top - 1))) {
                return 1;
            }
            push(code);
            partMustStand = true;
            return 0;
        }

        /** What waits and binds at least so close has its right side now. */
        private void settle(int leastLevel) {
            for (int i = top - 1; i >= 0 && level(waitingAt(i)) >= leastLevel; i--) {
                told.emit(waitingAt(i));
                top--;
            }
        }

        private void push(int code) {
            if (top >= 0 && top < waiting.length) {
                waiting[top] = code;
                top++;
            }
        }

        private int waitingAt(int at) {
            return at >= 0 && at < waiting.length ? waiting[at] : OPEN;
        }

        private int valueCode() {
            if (tokens.isWord("size")) {
                return SIZE;
            }
            if (tokens.isWord("own")) {
                return OWN;
            }
            if (tokens.isWord("turn")) {
                return TURN;
            }
            if (tokens.isWord("me")) {
                return ME;
            }
            if (tokens.isWord("last")) {
                return LAST;
            }
            return tokens.isWord("card") ? CARD : NO_CODE;
        }

        private int operatorCode() {
            switch (tokens.kind) {
                case '+': return PLUS;
                case '-': return MINUS;
                case '*': return TIMES;
                case '/': return BY;
                case '<': return LESS;
                case '=': return SAME;
                default: break;
            }
            if (tokens.isWord("or")) {
                return OR;
            }
            return tokens.isWord("and") ? AND : NO_CODE;
        }

        private static boolean isTest(int code) {
            return code == LESS || code == SAME;
        }

        private static int level(int code) {
            switch (code) {
                case OR: return 1;
                case AND: return 2;
                case NOT: return 3;
                case LESS: case SAME: return 4;
                case PLUS: case MINUS: return 5;
                case TIMES: case BY: return 6;
                default: return 0;
            }
        }
    }

    /** Reads a text line by line; the first fault ends it. */
    private static final class Reader {
        private final Tokens tokens = new Tokens();
        private final Compiler compiler;
        private final int[] cardsTold = new int[MOST_CARDS];
        private final boolean[] lineTold = new boolean[LINES * MOST_PEOPLE];
        private Told told;
        private boolean personTold;
        private int place;

        Reader(Told told) {
            this.told = told;
            compiler = new Compiler(tokens, told);
        }

        int read(Told into, int[] tape, int n) {
            told = into;
            told.clear();
            forget();
            tokens.open(tape, n);
            for (int i = 0; i <= n && tokens.kind != END; i++) {
                int what = lineKind();
                int fault = what == NONE ? 1 : what < LINE_FAN ? numberLine(what) : personLine(what);
                if (fault != 0) {
                    place = tokens.start;
                    return fault;
                }
                tokens.next();
            }
            place = n;
            return told.fansTold && !allCardsTold() ? 6 : 0;
        }

        private void forget() {
            personTold = false;
            for (int i = 0; i < cardsTold.length; i++) {
                cardsTold[i] = 0;
            }
            for (int i = 0; i < lineTold.length; i++) {
                lineTold[i] = false;
            }
        }

        private int lineKind() {
            if (tokens.isWord("people")) {
                return LINE_PEOPLE;
            }
            if (tokens.isWord("pairs")) {
                return LINE_PAIRS;
            }
            if (tokens.isWord("seed")) {
                return LINE_SEED;
            }
            if (tokens.isWord("fan")) {
                return LINE_FAN;
            }
            if (tokens.isWord("draws")) {
                return LINE_DRAWS;
            }
            if (tokens.isWord("holds")) {
                return LINE_HOLDS;
            }
            return tokens.isWord("habits") ? LINE_HABITS : NONE;
        }

        /** The fault at the token that is read now, or 0, that token being the line's ; . */
        private int numberLine(int what) {
            if (what != LINE_SEED && personTold) {
                return 2;
            }
            if (isTold(what, 0)) {
                return 5;
            }
            tokens.next();
            int least = what == LINE_PEOPLE ? 2 : what == LINE_PAIRS ? 1 : 0;
            int most = what == LINE_PEOPLE ? MOST_PEOPLE : what == LINE_PAIRS ? MOST_PAIRS : MOST_NUMBER;
            int fault = numberFault(least, most);
            if (fault != 0) {
                return fault;
            }
            switch (what) {
                case LINE_PEOPLE: told.people = tokens.number; break;
                case LINE_PAIRS: told.pairs = tokens.number; break;
                default: told.seed = tokens.number; break;
            }
            return endFault();
        }

        /** As of a line with a number alone. */
        private int personLine(int what) {
            tokens.next();
            int fault = numberFault(0, MOST_NUMBER);
            if (fault != 0) {
                return fault;
            }
            int person = tokens.number;
            if (person >= told.people) {
                return 3;
            }
            if (isTold(what, person)) {
                return 5;
            }
            personTold = true;
            switch (what) {
                case LINE_FAN: return cards(person);
                case LINE_DRAWS: return compiler.compile(told, RULE_DRAWS + person);
                case LINE_HOLDS: return compiler.compile(told, RULE_HOLDS + person);
                default: return weights(person);
            }
        }

        /** Whether such a line came already; if not, it has come now. */
        private boolean isTold(int what, int person) {
            int at = what * MOST_PEOPLE + person;
            if (at < 0 || at >= lineTold.length || lineTold[at]) {
                return true;
            }
            lineTold[at] = true;
            return false;
        }

        private int cards(int person) {
            told.fansTold = true;
            tokens.next();
            for (int i = 0; i <= TAPE && tokens.kind != ';'; i++) {
                boolean queen = tokens.isWord("queen");
                int fault = queen ? 0 : numberFault(1, told.pairs);
                if (fault == 0) {
                    fault = cardFault(person, queen ? QUEEN : tokens.number);
                }
                if (fault != 0) {
                    return fault;
                }
                tokens.next();
            }
            return 0;
        }

        private int cardFault(int person, int card) {
            if (person < 0 || person >= told.fans.length || card < 0 || card >= cardsTold.length) {
                return 2;
            }
            Fan fan = told.fans[person];
            int most = card == QUEEN ? 1 : 2;
            if (fan.placeOf(card) != NONE || cardsTold[card] >= most) {
                return 4;
            }
            fan.putIn(fan.size, card);
            cardsTold[card]++;
            return 0;
        }

        private int weights(int person) {
            for (int i = 0; i < WEIGHTS; i++) {
                tokens.next();
                int fault = numberFault(0, 99);
                if (fault != 0) {
                    return fault;
                }
                told.setWeight(person, i, tokens.number);
            }
            return endFault();
        }

        private int numberFault(int least, int most) {
            if (tokens.kind != NUMBER) {
                return 1;
            }
            boolean fine = !tokens.isTooLong() && tokens.number >= least && tokens.number <= most;
            return fine ? 0 : 2;
        }

        private int endFault() {
            tokens.next();
            return tokens.kind == ';' ? 0 : 1;
        }

        private boolean allCardsTold() {
            for (int i = 0; i < cardsTold.length; i++) {
                if (cardsTold[i] == 1 && i != QUEEN) {
                    return false;
                }
            }
            return cardsTold[QUEEN] == 1;
        }
    }

    /** Fans round a table, and whose turn it is. The rules of a seat are those of who sits there. */
    private static final class Game {
        private final Fan[] fans = new Fan[MOST_PEOPLE];
        private final Fan nobody = new Fan();
        private final int[] sitter = new int[MOST_PEOPLE];
        private final int[] last = new int[MOST_PEOPLE];
        private final int[] seen = new int[6];
        private final int[] deck = new int[DECK];
        private Told told;
        private int laws;
        private boolean lucky;
        private int seed;
        private int turn;
        private int done;

        Game(Told told) {
            this.told = told;
            for (int i = 0; i < MOST_PEOPLE; i++) {
                fans[i] = new Fan();
            }
        }

        void open(Told newTold, int newLaws, boolean newLucky) {
            told = newTold;
            laws = newLaws;
            lucky = newLucky;
            for (int i = 0; i < MOST_PEOPLE; i++) {
                fans[i].clear();
                sitter[i] = i;
            }
        }

        void takeTold() {
            for (int i = 0; i < MOST_PEOPLE; i++) {
                fans[i].copyFrom(told.fans[i]);
            }
            start();
        }

        void deal(int newSeed) {
            seed = newSeed;
            int cards = Math.min(2 * told.pairs + 1, DECK);
            for (int i = 0; i < cards; i++) {
                deck[i] = i + 1 < cards ? i / 2 + 1 : QUEEN;
            }
            for (int k = cards - 1; k >= 1; k--) {
                int other = drawOf(k + 1);
                if (other >= 0 && other < cards) {
                    int card = deck[k];
                    deck[k] = deck[other];
                    deck[other] = card;
                }
            }
            int person = 0;
            for (int i = 0; i < cards; i++) {
                dealTo(fanAt(person), deck[i]);
                person = person + 1 < told.people ? person + 1 : 0;
            }
            start();
        }

        /** There are two of a value, so one that meets its other in a fan may be laid aside at once. */
        private void dealTo(Fan fan, int card) {
            int pair = fan.placeOf(card);
            if (pair == NONE) {
                fan.putIn(fan.size, card);
            } else {
                fan.takeOut(pair);
            }
        }

        private int drawOf(int n) {
            seed = seed * 1103515245 + 12345;
            return n > 0 ? (seed >>> 16 & 32767) % n : 0;
        }

        void sitDown(Game other, int[] order) {
            open(other.told, 0, false);
            for (int i = 0; i < told.people && i < order.length && i < MOST_PEOPLE; i++) {
                sitter[i] = order[i];
                fans[i].copyFrom(other.fanAt(order[i]));
            }
            start();
        }

        private void start() {
            done = 0;
            for (int i = 0; i < MOST_PEOPLE; i++) {
                last[i] = 0;
            }
            turn = isEmpty(0) ? beside(0, true) : 0;
        }

        void copyFrom(Game other) {
            told = other.told;
            laws = other.laws;
            lucky = other.lucky;
            seed = other.seed;
            turn = other.turn;
            done = other.done;
            for (int i = 0; i < MOST_PEOPLE; i++) {
                fans[i].copyFrom(other.fans[i]);
                sitter[i] = other.sitter[i];
                last[i] = other.last[i];
            }
        }

        Fan fanAt(int seat) {
            return seat >= 0 && seat < MOST_PEOPLE ? fans[seat] : nobody;
        }

        boolean isEmpty(int seat) {
            return fanAt(seat).size == 0;
        }

        int sitterAt(int seat) {
            return seat >= 0 && seat < MOST_PEOPLE ? sitter[seat] : NONE;
        }

        private int lastOf(int seat) {
            return seat >= 0 && seat < MOST_PEOPLE ? last[seat] : 0;
        }

        private void setLast(int seat, int place) {
            if (seat >= 0 && seat < MOST_PEOPLE) {
                last[seat] = place;
            }
        }

        /** The first who has cards, behind a seat or ahead of it. */
        private int beside(int seat, boolean behind) {
            int other = seat;
            for (int i = 0; i < told.people; i++) {
                if (behind) {
                    other = other + 1 < told.people ? other + 1 : 0;
                } else {
                    other = other > 0 ? other - 1 : told.people - 1;
                }
                if (other >= 0 && other < MOST_PEOPLE && fans[other].size > 0) {
                    return other;
                }
            }
            return NONE;
        }

        /** From whom a seat draws. */
        int source(int seat) {
            return beside(seat, (laws & LAW_AHEAD) == 0);
        }

        boolean over() {
            int left = 0;
            for (int i = 0; i < told.people; i++) {
                left += isEmpty(i) ? 0 : 1;
            }
            return left < 2;
        }

        int queenHolder() {
            for (int i = 0; i < told.people; i++) {
                if (fanAt(i).placeOf(QUEEN) != NONE) {
                    return i;
                }
            }
            return NONE;
        }

        int loser() {
            return over() ? queenHolder() : NONE;
        }

        /** Where he whose turn it is draws. */
        int placeNow() {
            return lucky ? drawOf(fanAt(source(turn)).size) : rulePlace(turn);
        }

        int rulePlace(int seat) {
            int size = fanAt(source(seat)).size;
            see(seat, size, 0);
            int rule = RULE_DRAWS + sitterAt(seat);
            int place = told.hasRule(rule) ? told.answer(rule, seen) : size / 2;
            return size > 0 ? Math.floorMod(place, size) : 0;
        }

        private int holdPlace(int seat, int card) {
            int size = fanAt(seat).size;
            see(seat, size, card);
            int rule = RULE_HOLDS + sitterAt(seat);
            int place = told.hasRule(rule) ? told.answer(rule, seen) : size;
            return size >= 0 ? Math.floorMod(place, size + 1) : 0;
        }

        /** In the order of the codes. */
        private void see(int seat, int size, int card) {
            seen[0] = size;
            seen[1] = fanAt(seat).size;
            seen[2] = done;
            seen[3] = seat;
            seen[4] = lastOf(seat);
            seen[5] = card;
        }

        /** A draw at a place that there is, while it isn't over. */
        void step(int place, Draw draw) {
            Fan own = fanAt(turn);
            Fan theirs = fanAt(source(turn));
            int card = theirs.card(place);
            draw.drawer = turn;
            draw.from = source(turn);
            draw.place = place;
            draw.size = theirs.size;
            draw.withQueen = theirs.placeOf(QUEEN) != NONE;
            draw.card = card;
            draw.ownPlace = own.placeOf(card);
            draw.aside = draw.ownPlace != NONE;
            draw.lastBefore = lastOf(turn);
            setLast(turn, place);
            if (draw.aside) {
                theirs.takeOut(place);
                own.takeOut(draw.ownPlace);
            } else if (card != QUEEN || (laws & LAW_SHOWN) == 0) {
                theirs.takeOut(place);
                draw.ownPlace = holdPlace(turn, card);
                own.putIn(draw.ownPlace, card);
            }
            done++;
            turn = beside(turn, true);
        }

        void takeBack(Draw draw) {
            Fan own = fanAt(draw.drawer);
            if (draw.aside) {
                own.putIn(draw.ownPlace, draw.card);
            } else {
                own.takeOut(draw.ownPlace);
            }
            fanAt(draw.from).putIn(draw.place, draw.card);
            setLast(draw.drawer, draw.lastBefore);
            turn = draw.drawer;
            done--;
        }
    }

    /** A game played on to its end, or as long as one is watched. */
    private static final class Played {
        private final int[] queens = new int[MOST_PEOPLE];
        private final int[] longest = new int[MOST_PEOPLE];
        private final int[] out = new int[MOST_PEOPLE];
        private final Draw draw = new Draw();
        private int loser;
        private int draws;
        private int holder;
        private int stretch;

        void watch(Game game) {
            draws = 0;
            holder = NONE;
            stretch = 0;
            for (int i = 0; i < MOST_PEOPLE; i++) {
                queens[i] = 0;
                longest[i] = 0;
                out[i] = game.isEmpty(i) ? 0 : NONE;
            }
            while (draws < MOST_DRAWS && !game.over()) {
                game.step(game.placeNow(), draw);
                draws++;
                noteQueen(game.queenHolder());
                noteOut(game);
            }
            loser = game.loser();
        }

        private void noteQueen(int who) {
            stretch = who == holder ? stretch + 1 : 1;
            holder = who;
            if (who >= 0 && who < MOST_PEOPLE) {
                queens[who]++;
                longest[who] = Math.max(longest[who], stretch);
            }
        }

        private void noteOut(Game game) {
            for (int i = 0; i < MOST_PEOPLE; i++) {
                out[i] = out[i] == NONE && game.isEmpty(i) ? draws : out[i];
            }
        }

        int behind(int person, boolean inOneStretch) {
            if (person < 0 || person >= MOST_PEOPLE) {
                return 0;
            }
            return inOneStretch ? longest[person] : queens[person];
        }

        int outBehind(int person) {
            return person >= 0 && person < MOST_PEOPLE ? out[person] : NONE;
        }
    }

    /** What may come: by all blind draws, by all orders of seats, by many evenings. */
    private static final class Outlook {
        // Fans have 1 to 9 cards, all of which divide it: so every share of the whole is a whole number.
        private static final long SHARES = 2520;

        private final Game[] levels = new Game[MOST_BLIND + 1];
        private final Played played = new Played();
        private final Draw draw = new Draw();
        private final int[] order = new int[MOST_PEOPLE];
        private final int[] losses = new int[MOST_PEOPLE];
        private int notOver;
        private int longest;
        private int firstOrder;
        private long whole;
        private long withQueen;
        private long out;
        private long lost;

        Outlook(Told told) {
            for (int i = 0; i <= MOST_BLIND; i++) {
                levels[i] = new Game(told);
            }
        }

        /** False: spent. */
        boolean spread(Game game, int person, int n) {
            withQueen = 0;
            out = 0;
            lost = 0;
            whole = 1;
            for (int i = 0; i < n; i++) {
                whole *= SHARES;
            }
            levels[0].copyFrom(game);
            return spreadFrom(0, n, person, whole);
        }

        private boolean spreadFrom(int depth, int n, int person, long share) {
            if (depth < 0 || depth > MOST_BLIND) {
                return false;
            }
            Game here = levels[depth];
            if (depth >= n || depth >= MOST_BLIND || here.over()) {
                withQueen += here.queenHolder() == person ? share : 0;
                out += here.isEmpty(person) ? share : 0;
                lost += here.loser() == person ? share : 0;
                return true;
            }
            int size = here.fanAt(here.source(here.turn)).size;
            if (size < 1 || size > WIDEST_BLIND) {
                return false;
            }
            for (int i = 0; i < size; i++) {
                Game then = levels[depth + 1];
                then.copyFrom(here);
                then.step(i, draw);
                if (!spreadFrom(depth + 1, n, person, share / size)) {
                    return false;
                }
            }
            return true;
        }

        void begin() {
            notOver = 0;
            longest = 0;
            for (int i = 0; i < MOST_PEOPLE; i++) {
                losses[i] = 0;
            }
        }

        /** Who loses, as a person: the seats may have been changed. */
        int playOut(Game game) {
            played.watch(game);
            longest = Math.max(longest, played.draws);
            int loser = game.sitterAt(played.loser);
            if (loser >= 0 && loser < MOST_PEOPLE) {
                losses[loser]++;
            } else {
                notOver++;
            }
            return loser;
        }

        void trySeats(Game game, int person) {
            begin();
            firstOrder = NONE;
            for (int i = 0; i < MOST_PEOPLE; i++) {
                order[i] = i;
            }
            int people = Math.min(game.told.people, MOST_PEOPLE);
            boolean more = true;
            for (int i = 0; i < MOST_ORDERS && more; i++) {
                levels[0].sitDown(game, order);
                int loser = playOut(levels[0]);
                if (firstOrder == NONE && loser != NONE && loser != person) {
                    firstOrder = orderAsNumber(people);
                }
                more = nextOrder(people);
            }
        }

        private int orderAsNumber(int people) {
            int number = 0;
            for (int i = people - 1; i >= 0; i--) {
                number = number * 6 + order[i];
            }
            return number;
        }

        /** The next order as rows go; person 0 keeps the first seat. False: this was the last one. */
        private boolean nextOrder(int people) {
            int pivot = people - 2;
            while (pivot >= 1 && order[pivot] > order[pivot + 1]) {
                pivot--;
            }
            if (pivot < 1) {
                return false;
            }
            int other = people - 1;
            while (other > pivot && order[other] < order[pivot]) {
                other--;
            }
            swap(pivot, other);
            for (int i = pivot + 1, j = people - 1; i < j; i++, j--) {
                swap(i, j);
            }
            return true;
        }

        private void swap(int i, int j) {
            if (i >= 0 && i < MOST_PEOPLE && j >= 0 && j < MOST_PEOPLE) {
                int who = order[i];
                order[i] = order[j];
                order[j] = who;
            }
        }

        int losses(int person) {
            return person >= 0 && person < MOST_PEOPLE ? losses[person] : 0;
        }

        int mostByLeast(int people) {
            int most = losses(0);
            int least = losses(0);
            for (int i = 1; i < people; i++) {
                most = Math.max(most, losses(i));
                least = Math.min(least, losses(i));
            }
            return most - least;
        }
    }

    /** Where the queen may be, by what somebody has seen: all that others' fans can have been. */
    private static final class Belief {
        private final Fan[] then = new Fan[MOST_PEOPLE];
        private final Fan[] now = new Fan[MOST_PEOPLE];
        private final Fan nobody = new Fan();
        private final int[] left = new int[MOST_CARDS];
        private final int[] owner = new int[DECK];
        private final int[] holders = new int[MOST_PEOPLE];
        private final int[] places = new int[MOST_CARDS];
        private Log log;
        private int person;
        private int watched;
        private int spots;
        private int tries;
        private int all;

        Belief(Log log) {
            this.log = log;
            for (int i = 0; i < MOST_PEOPLE; i++) {
                then[i] = new Fan();
                now[i] = new Fan();
            }
        }

        /** False: spent. Of who is watched it is noted where in his fan the queen is now. */
        boolean weigh(Game beginning, Log newLog, int newPerson, int newWatched) {
            log = newLog;
            person = newPerson;
            watched = newWatched;
            forget();
            for (int i = 0; i < MOST_PEOPLE; i++) {
                if (i == person) {
                    then[i].copyFrom(beginning.fanAt(i));
                } else {
                    then[i].clear();
                    spread(i, beginning.fanAt(i));
                }
            }
            return tryAt(0);
        }

        private void forget() {
            spots = 0;
            tries = 0;
            all = 0;
            for (int i = 0; i < MOST_CARDS; i++) {
                left[i] = 0;
                places[i] = 0;
            }
            for (int i = 0; i < MOST_PEOPLE; i++) {
                holders[i] = 0;
            }
        }

        /** Of another one's fan it is known how long it was, and that its cards are somewhere. */
        private void spread(int who, Fan fan) {
            for (int i = 0; i < fan.size && spots < DECK; i++) {
                int card = fan.card(i);
                if (card >= 0 && card < MOST_CARDS) {
                    left[card]++;
                }
                owner[spots] = who;
                spots++;
            }
        }

        private boolean tryAt(int spot) {
            if (spot < 0 || spot >= spots || spot >= DECK) {
                weighArrangement();
                return true;
            }
            Fan fan = fanOf(then, owner[spot]);
            for (int card = 0; card < MOST_CARDS; card++) {
                if (left[card] > 0) {
                    tries++;
                    if (tries > MOST_TRIES) {
                        return false;
                    }
                    if (fan.placeOf(card) == NONE && !tryCard(spot, fan, card)) {
                        return false;
                    }
                }
            }
            return true;
        }

        private boolean tryCard(int spot, Fan fan, int card) {
            if (card < 0 || card >= MOST_CARDS) {
                return true;
            }
            left[card]--;
            fan.putIn(fan.size, card);
            boolean fine = tryAt(spot + 1);
            fan.takeOut(fan.size - 1);
            left[card]++;
            return fine;
        }

        private void weighArrangement() {
            for (int i = 0; i < MOST_PEOPLE; i++) {
                now[i].copyFrom(then[i]);
            }
            for (int i = 0; i < log.size; i++) {
                if (!wentSo(log.at(i))) {
                    return;
                }
            }
            all++;
            for (int i = 0; i < MOST_PEOPLE; i++) {
                int place = now[i].placeOf(QUEEN);
                if (place >= 0 && place < MOST_CARDS) {
                    holders[i]++;
                    places[place] += i == watched ? 1 : 0;
                }
            }
        }

        private boolean wentSo(Draw draw) {
            Fan theirs = fanOf(now, draw.from);
            Fan own = fanOf(now, draw.drawer);
            int card = theirs.card(draw.place);
            boolean known = draw.aside || draw.drawer == person || draw.from == person;
            if (known && card != draw.card) {
                return false;
            }
            int pair = own.placeOf(card);
            if (draw.aside != (pair != NONE)) {
                return false;
            }
            theirs.takeOut(draw.place);
            if (draw.aside) {
                own.takeOut(pair);
            } else {
                own.putIn(draw.ownPlace, card);
            }
            return true;
        }

        private Fan fanOf(Fan[] fans, int who) {
            return who >= 0 && who < fans.length ? fans[who] : nobody;
        }

        int holding(int who) {
            return who >= 0 && who < MOST_PEOPLE ? holders[who] : 0;
        }

        int queenAt(int place) {
            return place >= 0 && place < MOST_CARDS ? places[place] : 0;
        }
    }
}
