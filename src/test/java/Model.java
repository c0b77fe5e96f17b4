import java.math.BigInteger;
import java.util.ArrayDeque;
import java.util.ArrayList;
import java.util.Arrays;
import java.util.Deque;
import java.util.HashSet;
import java.util.List;
import java.util.Map;
import java.util.NoSuchElementException;
import java.util.Set;
import java.util.TreeMap;

/**
 * The document said a second time, with lists, copies and big numbers and without regard for cost:
 * SootQueen's answers are held against it. It shares no code and no ways with SootQueen.
 */
final class Model {
    static final int NONE = -1;

    /** An expression as a tree. */
    interface Expr {
        int of(Map<String, Integer> values);
    }

    static final class Fault extends RuntimeException {
        final int code;
        final int place;

        Fault(int code, int place) {
            this.code = code;
            this.place = place;
        }
    }

    static final class Spent extends RuntimeException { }

    record Token(String text, int place) {
        boolean number() {
            return !text.isEmpty() && Character.isDigit(text.charAt(0));
        }

        boolean word() {
            return !text.isEmpty() && text.charAt(0) >= 'a' && text.charAt(0) <= 'z';
        }
    }

    record Event(int drawer, int from, int place, int card, boolean aside, int put, int size, boolean queen) { }

    record Fraction(BigInteger up, BigInteger low) {
        static Fraction of(long up, long low) {
            return of(BigInteger.valueOf(up), BigInteger.valueOf(low));
        }

        static Fraction of(BigInteger up, BigInteger low) {
            BigInteger g = up.gcd(low);
            return new Fraction(up.divide(g), low.divide(g));
        }

        Fraction plus(Fraction o) {
            return of(up.multiply(o.low).add(o.up.multiply(low)), low.multiply(o.low));
        }

        Fraction times(Fraction o) {
            return of(up.multiply(o.up), low.multiply(o.low));
        }

        Fraction rest() {
            return of(low.subtract(up), low);
        }

        long part(boolean upper) {
            return (upper ? up : low).longValueExact();
        }
    }

    /** What a text tells. */
    static final class Told {
        int people = 3;
        int pairs = 5;
        int seed = 0;
        boolean fansTold = false;
        final List<List<Integer>> fans = new ArrayList<>();
        final Map<Integer, Expr> draws = new TreeMap<>();
        final Map<Integer, Expr> holds = new TreeMap<>();
        final Map<Integer, int[]> habits = new TreeMap<>();
    }

    static final class State {
        List<List<Integer>> fans = new ArrayList<>();
        int turn;
        int done;
        int[] last = new int[6];
        int[] sitter = {0, 1, 2, 3, 4, 5};
        int laws;

        State copy() {
            State s = new State();
            for (List<Integer> f : fans) {
                s.fans.add(new ArrayList<>(f));
            }
            s.turn = turn;
            s.done = done;
            s.last = last.clone();
            s.sitter = sitter.clone();
            s.laws = laws;
            return s;
        }

        boolean out(int p) {
            return fans.get(p).isEmpty();
        }

        boolean over() {
            return fans.stream().filter(f -> !f.isEmpty()).count() < 2;
        }

        int behind(int p, int way) {
            int n = fans.size();
            for (int i = 1; i <= n; i++) {
                int q = Math.floorMod(p + way * i, n);
                if (!out(q)) {
                    return q;
                }
            }
            return NONE;
        }

        int from(int p) {
            return behind(p, (laws & 1) != 0 ? -1 : 1);
        }

        int queen() {
            for (int i = 0; i < fans.size(); i++) {
                if (fans.get(i).contains(0)) {
                    return i;
                }
            }
            return NONE;
        }

        int lost() {
            return over() ? queen() : NONE;
        }
    }

    // ---- what an object has

    private final List<Integer> tape = new ArrayList<>();
    private Told told = new Told();
    private State now;
    private State start;
    private Deque<State> before = new ArrayDeque<>();
    private Deque<Event> events = new ArrayDeque<>();
    private State imageNow;
    private Deque<State> imageBefore;
    private Deque<Event> imageEvents;
    private int fault = NONE;
    private int badTexts = 0;
    private int badDraws = 0;

    Model() {
        lay();
    }

    private void lay() {
        now = new State();
        if (told.fansTold) {
            for (List<Integer> f : told.fans) {
                now.fans.add(new ArrayList<>(f));
            }
        } else {
            now.fans = deal(told, new int[] {told.seed});
        }
        now.turn = firstTurn(now);
        start = now.copy();
        before = new ArrayDeque<>();
        events = new ArrayDeque<>();
        imageNow = null;
    }

    private static int firstTurn(State s) {
        return s.out(0) ? s.behind(0, 1) : 0;
    }

    private static int random(int[] seed, int n) {
        seed[0] = seed[0] * 1103515245 + 12345;
        return (seed[0] & 0x7fff0000) / 65536 % n;
    }

    private static List<List<Integer>> deal(Told told, int[] seed) {
        List<Integer> deck = new ArrayList<>();
        for (int v = 1; v <= told.pairs; v++) {
            deck.add(v);
            deck.add(v);
        }
        deck.add(0);
        for (int k = deck.size() - 1; k >= 1; k--) {
            int j = random(seed, k + 1);
            int a = deck.get(k);
            deck.set(k, deck.get(j));
            deck.set(j, a);
        }
        List<List<Integer>> fans = new ArrayList<>();
        for (int p = 0; p < told.people; p++) {
            fans.add(new ArrayList<>());
        }
        for (int i = 0; i < deck.size(); i++) {
            fans.get(i % told.people).add(deck.get(i));
        }
        for (List<Integer> fan : fans) {
            for (int v = 1; v <= told.pairs; v++) {
                Integer value = v;
                if (fan.indexOf(value) != fan.lastIndexOf(value)) {
                    fan.remove(value);
                    fan.remove(value);
                }
            }
        }
        return fans;
    }

    // ---- the text

    private static final class Parser {
        final List<Token> tokens = new ArrayList<>();
        final Told told = new Told();
        final Set<String> seen = new HashSet<>();
        final Map<Integer, Integer> cards = new TreeMap<>();
        boolean personSeen = false;
        int at = 0;

        Parser(String text) {
            int i = 0;
            while (i < text.length()) {
                char c = text.charAt(i);
                int j = i + 1;
                if (c == ' ' || c == '\n') {
                    i++;
                    continue;
                }
                if (c >= 'a' && c <= 'z') {
                    while (j < text.length() && text.charAt(j) >= 'a' && text.charAt(j) <= 'z') {
                        j++;
                    }
                } else if (c >= '0' && c <= '9') {
                    while (j < text.length() && text.charAt(j) >= '0' && text.charAt(j) <= '9') {
                        j++;
                    }
                } else if (";()+-*/<=".indexOf(c) < 0) {
                    tokens.add(new Token("?", i));
                    i++;
                    continue;
                }
                tokens.add(new Token(text.substring(i, j), i));
                i = j;
            }
            tokens.add(new Token("", text.length()));
        }

        Token now() {
            return tokens.get(at);
        }

        boolean is(String s) {
            return now().text().equals(s);
        }

        RuntimeException bad(int code) {
            return new Fault(code, now().place());
        }

        Told table() {
            while (!is("")) {
                line();
            }
            if (told.fansTold) {
                boolean alone = cards.entrySet().stream().anyMatch(e -> e.getKey() != 0 && e.getValue() == 1);
                if (alone || !cards.containsKey(0)) {
                    throw bad(6);
                }
            }
            while (told.fans.size() < told.people) {
                told.fans.add(new ArrayList<>());
            }
            while (told.fans.size() > told.people) {
                told.fans.remove(told.fans.size() - 1);
            }
            return told;
        }

        void line() {
            String word = now().text();
            switch (word) {
                case "people", "pairs", "seed" -> {
                    if (!word.equals("seed") && personSeen) {
                        throw bad(2);
                    }
                    if (!seen.add(word)) {
                        throw bad(5);
                    }
                    at++;
                    if (word.equals("people")) {
                        told.people = number(2, 6);
                    } else if (word.equals("pairs")) {
                        told.pairs = number(1, 9);
                    } else {
                        told.seed = number(0, 9999);
                    }
                }
                case "fan", "draws", "holds", "habits" -> {
                    at++;
                    int person = number(0, 9999, false);
                    if (person >= told.people) {
                        throw bad(3);
                    }
                    if (!seen.add(word + person)) {
                        throw bad(5);
                    }
                    at++;
                    personSeen = true;
                    ofPerson(word, person);
                }
                default -> throw bad(1);
            }
            sign(";");
        }

        void ofPerson(String word, int person) {
            switch (word) {
                case "fan" -> {
                    told.fansTold = true;
                    while (told.fans.size() < 6) {
                        told.fans.add(new ArrayList<>());
                    }
                    while (is("queen") || now().number()) {
                        int card = is("queen") ? 0 : number(1, told.pairs, false);
                        int used = cards.getOrDefault(card, 0);
                        if (told.fans.get(person).contains(card) || used == (card == 0 ? 1 : 2)) {
                            throw bad(4);
                        }
                        cards.put(card, used + 1);
                        told.fans.get(person).add(card);
                        at++;
                    }
                }
                case "draws" -> told.draws.put(person, expr(0));
                case "holds" -> told.holds.put(person, expr(0));
                default -> {
                    int[] w = new int[6];
                    for (int i = 0; i < 6; i++) {
                        w[i] = number(0, 99);
                    }
                    told.habits.put(person, w);
                }
            }
        }

        void sign(String s) {
            if (!is(s)) {
                throw bad(1);
            }
            at++;
        }

        int number(int least, int most) {
            return number(least, most, true);
        }

        int number(int least, int most, boolean go) {
            if (!now().number()) {
                throw bad(1);
            }
            if (now().text().length() > 4) {
                throw bad(2);
            }
            int n = Integer.parseInt(now().text());
            if (n < least || n > most) {
                throw bad(2);
            }
            at += go ? 1 : 0;
            return n;
        }

        Expr expr(int within) {
            if (within >= 6 && (now().number() || now().word() || is("("))) {
                throw bad(2);
            }
            Expr a = and(within);
            while (is("or")) {
                at++;
                Expr l = a;
                Expr r = and(within);
                a = v -> (l.of(v) != 0 | r.of(v) != 0) ? 1 : 0;
            }
            return a;
        }

        Expr and(int within) {
            Expr a = not(within, 0);
            while (is("and")) {
                at++;
                Expr l = a;
                Expr r = not(within, 0);
                a = v -> (l.of(v) != 0 & r.of(v) != 0) ? 1 : 0;
            }
            return a;
        }

        Expr not(int within, int nots) {
            if (is("not")) {
                if (nots == 6) {
                    throw bad(2);
                }
                at++;
                Expr r = not(within, nots + 1);
                return v -> r.of(v) == 0 ? 1 : 0;
            }
            Expr l = sum(within);
            if (is("<") || is("=")) {
                boolean less = is("<");
                at++;
                Expr r = sum(within);
                return v -> (less ? l.of(v) < r.of(v) : l.of(v) == r.of(v)) ? 1 : 0;
            }
            return l;
        }

        Expr sum(int within) {
            Expr a = product(within);
            while (is("+") || is("-")) {
                int s = is("+") ? 1 : -1;
                at++;
                Expr l = a;
                Expr r = product(within);
                a = v -> l.of(v) + s * r.of(v);
            }
            return a;
        }

        Expr product(int within) {
            Expr a = part(within);
            while (is("*") || is("/")) {
                boolean times = is("*");
                at++;
                Expr l = a;
                Expr r = part(within);
                a = v -> {
                    int x = l.of(v);
                    int y = r.of(v);
                    return times ? x * y : y == 0 ? 0 : x / y;
                };
            }
            return a;
        }

        Expr part(int within) {
            if (now().number()) {
                int n = number(0, 9999);
                return v -> n;
            }
            if (is("(")) {
                at++;
                Expr e = expr(within + 1);
                sign(")");
                return e;
            }
            if (now().word()) {
                String w = now().text();
                if (!List.of("size", "own", "turn", "me", "last", "card").contains(w)) {
                    throw bad(3);
                }
                at++;
                return v -> v.get(w);
            }
            throw bad(1);
        }
    }

    // ---- draws

    private int place(State s, int seat) {
        List<Integer> theirs = s.fans.get(s.from(seat));
        Expr rule = told.draws.get(s.sitter[seat]);
        int size = theirs.size();
        int raw = rule == null ? size / 2 : rule.of(Map.of("size", size, "own", s.fans.get(seat).size(),
            "turn", s.done, "me", seat, "last", s.last[seat], "card", 0));
        return Math.floorMod(raw, size);
    }

    private Event drawAt(State s, int place) {
        int seat = s.turn;
        int from = s.from(seat);
        List<Integer> theirs = s.fans.get(from);
        List<Integer> own = s.fans.get(seat);
        int size = theirs.size();
        boolean queen = theirs.contains(0);
        Integer card = theirs.get(place);
        s.last[seat] = place;
        boolean aside = false;
        int put = NONE;
        if ((s.laws & 2) == 0 || card != 0) {
            theirs.remove(place);
            aside = own.remove(card);
            if (!aside) {
                Expr rule = told.holds.get(s.sitter[seat]);
                int n = own.size();
                int raw = rule == null ? n : rule.of(Map.of("size", n, "own", n,
                    "turn", s.done, "me", seat, "last", place, "card", card));
                put = Math.floorMod(raw, n + 1);
                own.add(put, card);
            }
        }
        s.done++;
        s.turn = s.behind(seat, 1);
        return new Event(seat, from, place, card, aside, put, size, queen);
    }

    private void really(int place) {
        before.addLast(now.copy());
        events.addLast(drawAt(now, place));
        if (before.size() > 60) {
            before.removeFirst();
            events.removeFirst();
        }
    }

    /** All states behind each draw, the first one being that of now. */
    private List<State> played(State from, int[] luck) {
        List<State> all = new ArrayList<>();
        State s = from.copy();
        all.add(s.copy());
        for (int i = 0; i < 200 && !s.over(); i++) {
            int place = luck == null ? place(s, s.turn)
                : random(luck, s.fans.get(s.from(s.turn)).size());
            drawAt(s, place);
            all.add(s.copy());
        }
        return all;
    }

    private static State end(List<State> all) {
        return all.get(all.size() - 1);
    }

    private int need(int person) {
        if (person < 0 || person >= told.people) {
            throw new NoSuchElementException();
        }
        return person;
    }

    private static void range(int what, int most) {
        if (what < 0 || what > most) {
            throw new NoSuchElementException();
        }
    }

    private static void argument(int n, int least, int most) {
        if (n < least || n > most) {
            throw new IllegalArgumentException();
        }
    }

    // ---- the face

    int feed(int... five) {
        if (tape.size() + 20 > 600) {
            return NONE;
        }
        for (int n : five) {
            for (byte b : BigInteger.valueOf(n & 0xffffffffL | 1L << 40).toByteArray()) {
                tape.add(b & 255);
            }
            tape.remove(tape.size() - 5);
            tape.remove(tape.size() - 5);
        }
        return tape.size();
    }

    int table(int n) {
        argument(n, 0, tape.size());
        StringBuilder text = new StringBuilder();
        for (int i = 0; i < n; i++) {
            text.append((char) (int) tape.get(i));
        }
        tape.clear();
        try {
            told = new Parser(text.toString()).table();
        } catch (Fault f) {
            fault = f.place;
            badTexts++;
            return f.code;
        }
        fault = NONE;
        lay();
        return 0;
    }

    int fault() {
        return fault;
    }

    int count(int what) {
        range(what, 10);
        int[] all = {told.people, told.pairs, told.seed, now.over() ? NONE : now.turn, now.done, events.size(),
            now.queen(), now.lost(), tape.size(), badTexts, badDraws};
        return all[what];
    }

    int fan(int person, int place) {
        List<Integer> f = now.fans.get(need(person));
        if (place == NONE) {
            return f.size();
        }
        range(place, f.size() - 1);
        return f.get(place);
    }

    int person(int person, int what) {
        need(person);
        range(what, 7);
        if (what >= 2) {
            return told.habits.getOrDefault(person, new int[6])[what - 2];
        }
        if (now.over() || now.out(person)) {
            return NONE;
        }
        return what == 0 ? now.from(person) : place(now, person);
    }

    int draw(int place) {
        if (now.over() || place < 0 || place >= now.fans.get(now.from(now.turn)).size()) {
            badDraws++;
            return NONE;
        }
        really(place);
        Event e = events.peekLast();
        return e.card + (e.aside ? 100 : 0);
    }

    int play(int draws) {
        argument(draws, 0, 200);
        int n = 0;
        for (; n < draws && !now.over(); n++) {
            really(place(now, now.turn));
        }
        return n;
    }

    int undo() {
        if (before.isEmpty()) {
            return NONE;
        }
        now = before.removeLast().copy();
        events.removeLast();
        return before.size();
    }

    int ends(int what) {
        range(what, 1);
        List<State> all = played(now, null);
        return what == 0 ? end(all).lost() : all.size() - 1;
    }

    int has(int person, boolean longest) {
        need(person);
        List<State> all = played(now, null);
        int sum = 0;
        int run = 0;
        int most = 0;
        for (State s : all.subList(1, all.size())) {
            run = s.queen() == person ? run + 1 : 0;
            sum += s.queen() == person ? 1 : 0;
            most = Math.max(most, run);
        }
        return longest ? most : sum;
    }

    long blind(int person, int n, int what) {
        need(person);
        range(what, 5);
        argument(n, 0, 4);
        try {
            return chance(now, person, n, what / 2).part(what % 2 == 0);
        } catch (Spent s) {
            return -2;
        }
    }

    private Fraction chance(State s, int person, int n, int what) {
        if (n == 0 || s.over()) {
            boolean yes = what == 0 ? s.queen() == person : what == 1 ? s.out(person) : s.lost() == person;
            return Fraction.of(yes ? 1 : 0, 1);
        }
        int size = s.fans.get(s.from(s.turn)).size();
        if (size > 9) {
            throw new Spent();
        }
        Fraction sum = Fraction.of(0, 1);
        for (int i = 0; i < size; i++) {
            State t = s.copy();
            drawAt(t, i);
            sum = sum.plus(chance(t, person, n - 1, what).times(Fraction.of(1, size)));
        }
        return sum;
    }

    long two(int k, boolean queen, int what) {
        range(what, 1);
        argument(k, 0, 13);
        return loses(k, queen).part(what == 0);
    }

    private static Fraction loses(int k, boolean queen) {
        if (k == 0) {
            return Fraction.of(queen ? 1 : 0, 1);
        }
        if (queen) {
            return loses(k - 1, false).rest();
        }
        // x = 1/(k+1) (1 - x) + k/(k+1) (1 - y), so x (1 + 1/(k+1)) = 1/(k+1) + k/(k+1) (1 - y)
        Fraction right = Fraction.of(1, k + 1).plus(Fraction.of(k, k + 1).times(loses(k - 1, true).rest()));
        return right.times(Fraction.of(k + 1, k + 2));
    }

    int belief(int person, int who) {
        need(person);
        if (who != NONE) {
            need(who);
        }
        List<List<List<Integer>>> all;
        try {
            all = arrangements(person);
        } catch (Spent s) {
            return -2;
        }
        return (int) all.stream().filter(a -> who == NONE || a.get(who).contains(0)).count();
    }

    /** The fans now by each arrangement. */
    private List<List<List<Integer>>> arrangements(int person) {
        if (events.size() != now.done) {
            throw new Spent();
        }
        TreeMap<Integer, Integer> pool = new TreeMap<>();
        List<List<Integer>> fans = new ArrayList<>();
        List<Integer> order = new ArrayList<>();
        for (int p = 0; p < told.people; p++) {
            fans.add(new ArrayList<>(p == person ? start.fans.get(p) : List.of()));
            if (p != person) {
                for (int card : start.fans.get(p)) {
                    pool.merge(card, 1, Integer::sum);
                    order.add(p);
                }
            }
        }
        List<List<List<Integer>>> found = new ArrayList<>();
        tryAll(person, order, 0, pool, fans, new int[1], found);
        return found;
    }

    private void tryAll(int person, List<Integer> order, int at, TreeMap<Integer, Integer> pool,
            List<List<Integer>> fans, int[] tries, List<List<List<Integer>>> found) {
        if (at == order.size()) {
            List<List<Integer>> then = replay(person, fans);
            if (then != null) {
                found.add(then);
            }
            return;
        }
        List<Integer> fan = fans.get(order.get(at));
        for (int v = 0; v <= 9; v++) {
            int left = pool.getOrDefault(v, 0);
            if (left == 0) {
                continue;
            }
            if (++tries[0] > 20000) {
                throw new Spent();
            }
            if (!fan.contains(v)) {
                pool.put(v, left - 1);
                fan.add(v);
                tryAll(person, order, at + 1, pool, fans, tries, found);
                fan.remove(fan.size() - 1);
                pool.put(v, left);
            }
        }
    }

    private List<List<Integer>> replay(int person, List<List<Integer>> fans) {
        List<List<Integer>> f = new ArrayList<>();
        for (List<Integer> fan : fans) {
            f.add(new ArrayList<>(fan));
        }
        for (Event e : events) {
            Integer card = f.get(e.from).remove(e.place);
            boolean aside = f.get(e.drawer).remove(card);
            boolean knows = e.drawer == person || e.from == person || e.aside;
            if (aside != e.aside || knows && card != e.card) {
                return null;
            }
            if (!aside) {
                f.get(e.drawer).add(e.put, card);
            }
        }
        return f;
    }

    long peeped(int person, int what) {
        need(person);
        range(what, 3);
        List<Event> his = events.stream().filter(e -> e.drawer == person && e.queen).toList();
        if (what == 2) {
            return his.size();
        }
        if (what == 3) {
            return his.stream().filter(e -> e.card == 0).count();
        }
        Fraction f = Fraction.of(1, 1);
        for (Event e : his.subList(Math.max(0, his.size() - 12), his.size())) {
            f = f.times(Fraction.of(e.size - 1, e.size));
        }
        return f.part(what == 0);
    }

    int hold(int drawer, int size, int what) {
        need(drawer);
        range(what, 2);
        argument(size, 1, 6);
        int[] w = Arrays.copyOf(told.habits.getOrDefault(drawer, new int[6]), size);
        int sum = Arrays.stream(w).sum();
        int most = Arrays.stream(w).max().getAsInt();
        int at = 0;
        while (w[at] != most) {
            at++;
        }
        return what == 0 ? at : (int) (sum == 0 ? Fraction.of(0, 1) : Fraction.of(most, sum)).part(what == 1);
    }

    int choose(int person, int what) {
        need(person);
        range(what, 1);
        if (now.over() || now.out(person)) {
            return NONE;
        }
        List<List<List<Integer>>> all;
        try {
            all = arrangements(person);
        } catch (Spent s) {
            return -2;
        }
        int from = now.from(person);
        int[] n = new int[now.fans.get(from).size()];
        for (List<List<Integer>> a : all) {
            int at = a.get(from).indexOf(0);
            if (at >= 0) {
                n[at]++;
            }
        }
        int least = Arrays.stream(n).min().getAsInt();
        int at = 0;
        while (n[at] != least) {
            at++;
        }
        return what == 0 ? at : least;
    }

    int seats(int person, int what) {
        need(person);
        range(what, 2);
        List<List<Integer>> orders = new ArrayList<>();
        List<Integer> rest = new ArrayList<>();
        for (int i = 1; i < told.people; i++) {
            rest.add(i);
        }
        orders(new ArrayList<>(List.of(0)), rest, orders);
        int loses = 0;
        int none = 0;
        int first = NONE;
        for (List<Integer> order : orders) {
            State s = new State();
            for (int i = 0; i < order.size(); i++) {
                s.sitter[i] = order.get(i);
                s.fans.add(new ArrayList<>(now.fans.get(order.get(i))));
            }
            s.turn = firstTurn(s);
            int seat = end(played(s, null)).lost();
            int loser = seat == NONE ? NONE : order.get(seat);
            loses += loser == person ? 1 : 0;
            none += loser == NONE ? 1 : 0;
            if (first == NONE && loser != NONE && loser != person) {
                first = 0;
                for (int i = order.size() - 1; i >= 0; i--) {
                    first = first * 6 + order.get(i);
                }
            }
        }
        return what == 0 ? loses : what == 1 ? none : first;
    }

    private static void orders(List<Integer> head, List<Integer> rest, List<List<Integer>> into) {
        if (rest.isEmpty()) {
            into.add(new ArrayList<>(head));
        }
        for (Integer p : rest) {
            List<Integer> h = new ArrayList<>(head);
            List<Integer> r = new ArrayList<>(rest);
            h.add(p);
            r.remove(p);
            orders(h, r, into);
        }
    }

    int evenings(int seed, int many, int laws, boolean blind, int who) {
        if (who < -3 || who >= told.people) {
            throw new NoSuchElementException();
        }
        argument(many, 0, 60);
        argument(laws, 0, 3);
        int[] loses = new int[told.people];
        int none = 0;
        int longest = 0;
        for (int i = 0; i < many; i++) {
            int[] luck = {seed + i};
            State s = new State();
            s.fans = deal(told, luck);
            s.laws = laws;
            s.turn = firstTurn(s);
            List<State> all = played(s, blind ? luck : null);
            longest = Math.max(longest, all.size() - 1);
            int lost = end(all).lost();
            if (lost == NONE) {
                none++;
            } else {
                loses[lost]++;
            }
        }
        if (who >= 0) {
            return loses[who];
        }
        return who == NONE ? none : who == -2 ? longest
            : Arrays.stream(loses).max().getAsInt() - Arrays.stream(loses).min().getAsInt();
    }

    int wouldLose(int place) {
        if (now.over()) {
            throw new NoSuchElementException();
        }
        int size = now.fans.get(now.from(now.turn)).size();
        if (place < -2 || place >= size) {
            throw new NoSuchElementException();
        }
        List<Integer> losers = new ArrayList<>();
        for (int i = 0; i < size; i++) {
            State s = now.copy();
            drawAt(s, i);
            losers.add(end(played(s, null)).lost());
        }
        if (place >= 0) {
            return losers.get(place);
        }
        List<Integer> fine = new ArrayList<>();
        for (int i = 0; i < size; i++) {
            if (losers.get(i) != NONE && losers.get(i) != now.turn) {
                fine.add(i);
            }
        }
        return place == NONE ? fine.size() : fine.isEmpty() ? NONE : fine.get(0);
    }

    int isOut(int person) {
        need(person);
        List<State> all = played(now, null);
        for (int i = 0; i < all.size(); i++) {
            if (all.get(i).out(person)) {
                return i;
            }
        }
        return NONE;
    }

    int rank(int person) {
        int his = isOut(person);
        if (his == NONE) {
            return NONE;
        }
        int n = 0;
        for (int p = 0; p < told.people; p++) {
            int o = isOut(p);
            n += o != NONE && (o < his || o == his && p < person) ? 1 : 0;
        }
        return n;
    }

    int habit(int person, int what) {
        need(person);
        range(what, 9);
        if (what >= 8) {
            return (int) events.stream().filter(e -> e.from == person && e.queen && (what == 8 || e.card == 0)).count();
        }
        int[] n = new int[7];
        events.stream().filter(e -> e.drawer == person).forEach(e -> n[Math.min(6, e.place)]++);
        if (what < 7) {
            return n[what];
        }
        int most = Arrays.stream(n).max().getAsInt();
        for (int i = 0; i < 7 && most > 0; i++) {
            if (n[i] == most) {
                return i;
            }
        }
        return NONE;
    }

    int face(int size, int high, int what) {
        range(what, 4);
        argument(size, 2, 6);
        argument(high, 0, 100);
        Fraction she = Fraction.of(high, 100);
        Fraction other = she.rest().times(Fraction.of(1, size - 1));
        if (what == 4) {
            return she.up.multiply(other.low).compareTo(other.up.multiply(she.low)) >= 0 ? 0 : 1;
        }
        return (int) (what < 2 ? she : other).part(what % 2 == 0);
    }

    void image() {
        imageNow = now.copy();
        imageBefore = new ArrayDeque<>(before);
        imageEvents = new ArrayDeque<>(events);
    }

    boolean restore() {
        if (imageNow == null) {
            return false;
        }
        now = imageNow.copy();
        before = new ArrayDeque<>(imageBefore);
        events = new ArrayDeque<>(imageEvents);
        return true;
    }
}
