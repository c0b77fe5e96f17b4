import java.util.List;

/**
 * Every call by every boundary of its arguments (and by what lies beside it), in states that are boundaries
 * themselves: each answer and each exception must be that of the Model, and none may come from the machine.
 */
public final class EdgesTest {
    private static final String RULES = "draws 0 last+1;draws 1 0-turn;holds 0 card;holds 1 turn;habits 0 0 99 99 1 0 0;";
    private static final int[] SOME = {Checks.MIN, -4, -3, -2, -1, 0, 1, 2, 3, 4, 5, 6, 7, 8, 9, 10, 11, 12, 14, Checks.MAX};
    private static final int[] PEOPLE = {Checks.MIN, -2, -1, 0, 1, 2, 3, 5, 6, Checks.MAX};

    /** A text, and what is done behind it: place to draw, or -n: so many by the rules. */
    private record State(String text, int... draws) { }

    private static final List<State> STATES = List.of(
        new State(""),
        new State("", 0, 2),
        new State(Checks.FOUR),
        new State(Checks.FOUR, -4),
        new State(Checks.FOUR, -5),
        new State("people 6;fan 4 queen;"),
        new State("people 2;pairs 1;"),
        new State("people 2;pairs 1;fan 0 1 queen;fan 1 1;" + RULES),
        new State(Checks.EVER, -60),
        new State(Checks.EVER, -61),
        new State(Checks.EVER, -61, 0),
        new State("pairs 2;fan 0 1 2;fan 1 1 queen;fan 2 2;" + RULES, 1, 0),
        new State("people 6;pairs 9;seed 9999;" + RULES),
        new State("people 4;pairs 6;seed 77;" + RULES, -20),
        new State(Checks.FULL),
        new State(Checks.overBehind(200)),
        new State(Checks.overBehind(201)));

    private static int calls = 0;
    private static int wrong = 0;

    private final State state;
    private SootQueen queen;
    private Model model;

    private EdgesTest(State state) {
        this.state = state;
    }

    public static void main(String[] args) {
        for (State state : STATES) {
            EdgesTest t = new EdgesTest(state);
            t.anew();
            t.plain();
            t.ofAPerson();
            t.ofNumbers();
            t.evenings();
            t.changing();
        }
        System.out.println("EdgesTest: " + calls + " calls, " + wrong + " not as due");
        if (wrong > 0 || calls == 0) {
            System.exit(1);
        }
    }

    private void anew() {
        queen = new SootQueen();
        model = new Model();
        feed(state.text);
        same("table", () -> queen.table(state.text.length()), () -> model.table(state.text.length()));
        for (int draw : state.draws) {
            if (draw < 0) {
                same("play", () -> queen.play(-draw), () -> model.play(-draw));
            } else {
                same("draw", () -> queen.draw(draw), () -> model.draw(draw));
            }
        }
    }

    private void feed(String text) {
        for (int at = 0; at < text.length(); at += 20) {
            int[] five = new int[5];
            for (int i = 0; i < 20; i++) {
                five[i / 4] = five[i / 4] << 8 | (at + i < text.length() ? text.charAt(at + i) : ' ');
            }
            same("feed", () -> queen.feed(five[0], five[1], five[2], five[3], five[4]), () -> model.feed(five));
        }
    }

    private void same(String name, Checks.Call a, Checks.Call b) {
        calls++;
        String got = Checks.outcome(a);
        String want = Checks.outcome(b);
        if (!got.equals(want) || got.endsWith("machine")) {
            wrong++;
            System.out.println(state + ": " + name + " answered " + got + ", due is " + want);
        }
    }

    /** All that can be seen of a state without a person. */
    private void plain() {
        for (int what : SOME) {
            same("count(" + what + ")", () -> queen.count(what), () -> model.count(what));
            same("ends(" + what + ")", () -> queen.ends(what), () -> model.ends(what));
            same("wouldLose(" + what + ")", () -> queen.wouldLose(what), () -> model.wouldLose(what));
        }
        same("fault()", () -> queen.fault(), () -> model.fault());
    }

    private void ofAPerson() {
        for (int p : PEOPLE) {
            same("isOut(" + p + ")", () -> queen.isOut(p), () -> model.isOut(p));
            same("rank(" + p + ")", () -> queen.rank(p), () -> model.rank(p));
            same("has(" + p + ", true)", () -> queen.has(p, true), () -> model.has(p, true));
            same("has(" + p + ", false)", () -> queen.has(p, false), () -> model.has(p, false));
            for (int what : SOME) {
                String by = "(" + p + ", " + what + ")";
                same("fan" + by, () -> queen.fan(p, what), () -> model.fan(p, what));
                same("person" + by, () -> queen.person(p, what), () -> model.person(p, what));
                same("belief" + by, () -> queen.belief(p, what), () -> model.belief(p, what));
                same("peeped" + by, () -> queen.peeped(p, what), () -> model.peeped(p, what));
                same("choose" + by, () -> queen.choose(p, what), () -> model.choose(p, what));
                same("seats" + by, () -> queen.seats(p, what), () -> model.seats(p, what));
                same("habit" + by, () -> queen.habit(p, what), () -> model.habit(p, what));
                for (int n : new int[] {Checks.MIN, -1, 0, 1, 2, 5, 6, 7, Checks.MAX}) {
                    String byThree = "(" + p + ", " + n + ", " + what + ")";
                    same("blind" + byThree, () -> queen.blind(p, n, what), () -> model.blind(p, n, what));
                    same("hold" + byThree, () -> queen.hold(p, n, what), () -> model.hold(p, n, what));
                }
            }
        }
        for (int what = 0; what <= 5; what++) {
            int w = what;
            same("blind(1, 4, " + w + ")", () -> queen.blind(1, 4, w), () -> model.blind(1, 4, w));
            same("blind(0, 3, " + w + ")", () -> queen.blind(0, 3, w), () -> model.blind(0, 3, w));
        }
    }

    private void ofNumbers() {
        for (int what : SOME) {
            for (int a : new int[] {Checks.MIN, -1, 0, 1, 2, 3, 6, 7, 13, 14, Checks.MAX}) {
                same("two(" + a + ", true, " + what + ")", () -> queen.two(a, true, what), () -> model.two(a, true, what));
                same("two(" + a + ", false, " + what + ")", () -> queen.two(a, false, what), () -> model.two(a, false, what));
                for (int high : new int[] {Checks.MIN, -1, 0, 1, 20, 50, 99, 100, 101, Checks.MAX}) {
                    String by = "face(" + a + ", " + high + ", " + what + ")";
                    same(by, () -> queen.face(a, high, what), () -> model.face(a, high, what));
                }
            }
        }
    }

    private void evenings() {
        for (int seed : new int[] {Checks.MIN, -1, 0, Checks.MAX}) {
            for (int many : new int[] {Checks.MIN, -1, 0, 1, 2, 61, Checks.MAX}) {
                for (int laws : new int[] {Checks.MIN, -1, 0, 1, 2, 3, 4, Checks.MAX}) {
                    for (int who : new int[] {Checks.MIN, -4, -3, -2, -1, 0, 1, 2, 5, 6, Checks.MAX}) {
                        boolean luck = (seed ^ who) % 2 == 0;
                        String by = "evenings(" + seed + ", " + many + ", " + laws + ", " + luck + ", " + who + ")";
                        same(by, () -> queen.evenings(seed, many, laws, luck, who), () -> model.evenings(seed, many, laws, luck, who));
                    }
                }
            }
        }
    }

    /** Each by itself, on the state as it was, and what it has left. */
    private void changing() {
        for (int place : SOME) {
            anew();
            same("draw(" + place + ")", () -> queen.draw(place), () -> model.draw(place));
            plain();
        }
        for (int draws : new int[] {Checks.MIN, -1, 0, 1, 2, 59, 60, 61, 199, 200, 201, Checks.MAX}) {
            anew();
            same("play(" + draws + ")", () -> queen.play(draws), () -> model.play(draws));
            plain();
            same("undo()", () -> queen.undo(), () -> model.undo());
            plain();
        }
        for (int n : new int[] {Checks.MIN, -1, 0, 1, 19, 20, 21, 600, 601, Checks.MAX}) {
            anew();
            feed("seed 4321;people 4;");
            same("table(" + n + ")", () -> queen.table(n), () -> model.table(n));
            plain();
            same("restore()", () -> queen.restore() ? 1 : 0, () -> model.restore() ? 1 : 0);
        }
        anew();
        same("restore()", () -> queen.restore() ? 1 : 0, () -> model.restore() ? 1 : 0);
        queen.image();
        model.image();
        same("play(60)", () -> queen.play(60), () -> model.play(60));
        same("restore()", () -> queen.restore() ? 1 : 0, () -> model.restore() ? 1 : 0);
        plain();
        for (int i = 0; i <= 61; i++) {
            same("undo()", () -> queen.undo(), () -> model.undo());
        }
        plain();
    }
}
