import java.util.ArrayList;
import java.util.Collections;
import java.util.List;
import java.util.Random;

/**
 * Runs of random calls, each on a new SootQueen and a new Model: every answer must be the same, and so
 * must every exception. The random seeds are fixed, so the same runs come every time.
 */
public final class ModelTest {
    private static final int RUNS = 1500;

    private static int wrong = 0;
    private static int calls = 0;

    private final Random random;
    private final SootQueen queen = new SootQueen();
    private final Model model = new Model();
    private final List<String> story = new ArrayList<>();
    private final int run;
    private boolean fine = true;
    private int left = 512;

    private ModelTest(int run) {
        this.run = run;
        random = new Random(run);
    }

    public static void main(String[] args) {
        int from = args.length > 0 ? Integer.parseInt(args[0]) : 0;
        int to = args.length > 1 ? Integer.parseInt(args[1]) : RUNS;
        for (int i = from; i < to && wrong < 5; i++) {
            new ModelTest(i).go();
        }
        System.out.println(calls + " calls held against the model, " + wrong + " runs went wrong");
        if (wrong > 0 || calls == 0) {
            System.exit(1);
        }
    }

    private void go() {
        int many = 20 + random.nextInt(120);
        for (int i = 0; i < many && fine && left > 80; i++) {
            one();
        }
        if (!fine) {
            wrong++;
            System.out.println("run " + run + ":");
            story.subList(Math.max(0, story.size() - 40), story.size()).forEach(s -> System.out.println("  " + s));
        }
    }

    private void same(String name, Checks.Call a, Checks.Call b) {
        calls++;
        left--;
        String got = Checks.outcome(a);
        String want = Checks.outcome(b);
        story.add(name + " = " + got + (got.equals(want) ? "" : ", due is " + want));
        fine &= got.equals(want);
    }

    private int about(int least, int most) {
        return random.nextInt(30) == 0 ? List.of(-4, -3, -2, -1, least - 1, most + 1, Integer.MAX_VALUE, Integer.MIN_VALUE)
            .get(random.nextInt(8)) : least + random.nextInt(most - least + 1);
    }

    private int person() {
        return random.nextInt(40) == 0 ? about(-3, 7) : random.nextInt(Math.max(1, model.count(0)));
    }

    private void one() {
        int p = person();
        int w;
        switch (random.nextInt(34)) {
            case 0, 1 -> text();
            case 2, 3 -> sameCount(about(0, 10));
            case 4 -> { int at = about(-1, 6); same("fan(" + p + ", " + at + ")", () -> queen.fan(p, at), () -> model.fan(p, at)); }
            case 5, 6 -> { w = about(0, 7); int x = w; same("person(" + p + ", " + x + ")", () -> queen.person(p, x), () -> model.person(p, x)); }
            case 7, 8, 9, 10 -> { int at = about(0, 3); same("draw(" + at + ")", () -> queen.draw(at), () -> model.draw(at)); look(); }
            case 11, 12 -> { int n = random.nextInt(8) == 0 ? about(0, 200) : about(0, 12); same("play(" + n + ")", () -> queen.play(n), () -> model.play(n)); look(); }
            case 13, 14 -> { for (int i = random.nextInt(9) == 0 ? 65 : random.nextInt(4); i >= 0 && left > 40; i--) { same("undo()", queen::undo, model::undo); } look(); }
            case 15 -> { w = about(0, 1); int x = w; same("ends(" + x + ")", () -> queen.ends(x), () -> model.ends(x)); }
            case 16 -> { boolean b = random.nextBoolean(); same("has(" + p + ", " + b + ")", () -> queen.has(p, b), () -> model.has(p, b)); }
            case 17 -> blind(p);
            case 18 -> { int k = about(0, 13); boolean b = random.nextBoolean(); int x = about(0, 1); same("two(" + k + ", " + b + ", " + x + ")", () -> queen.two(k, b, x), () -> model.two(k, b, x)); }
            case 19, 20 -> { int q = random.nextInt(3) == 0 ? -1 : person(); same("belief(" + p + ", " + q + ")", () -> queen.belief(p, q), () -> model.belief(p, q)); }
            case 21, 22 -> { int x = about(0, 3); same("peeped(" + p + ", " + x + ")", () -> queen.peeped(p, x), () -> model.peeped(p, x)); }
            case 23 -> { int s = about(1, 6); int x = about(0, 2); same("hold(" + p + ", " + s + ", " + x + ")", () -> queen.hold(p, s, x), () -> model.hold(p, s, x)); }
            case 24 -> { int x = about(0, 1); same("choose(" + p + ", " + x + ")", () -> queen.choose(p, x), () -> model.choose(p, x)); }
            case 25 -> { int x = about(0, 2); same("seats(" + p + ", " + x + ")", () -> queen.seats(p, x), () -> model.seats(p, x)); }
            case 26 -> evenings();
            case 27 -> { int at = about(-2, 4); same("wouldLose(" + at + ")", () -> queen.wouldLose(at), () -> model.wouldLose(at)); }
            case 28 -> { same("isOut(" + p + ")", () -> queen.isOut(p), () -> model.isOut(p)); same("rank(" + p + ")", () -> queen.rank(p), () -> model.rank(p)); }
            case 29, 30 -> { int x = about(0, 9); same("habit(" + p + ", " + x + ")", () -> queen.habit(p, x), () -> model.habit(p, x)); }
            case 31 -> { int s = about(2, 6); int h = about(0, 100); int x = about(0, 4); same("face(" + s + ", " + h + ", " + x + ")", () -> queen.face(s, h, x), () -> model.face(s, h, x)); }
            case 32 -> same("image()", () -> { queen.image(); return 0; }, () -> { model.image(); return 0; });
            default -> { same("restore()", () -> queen.restore() ? 1 : 0, () -> model.restore() ? 1 : 0); look(); }
        }
    }

    private void sameCount(int what) {
        same("count(" + what + ")", () -> queen.count(what), () -> model.count(what));
    }

    /** What a call that changes something must have left. */
    private void look() {
        for (int what = 3; what <= 7; what++) {
            sameCount(what);
        }
        int q = random.nextInt(model.count(0));
        for (int i = -1; i < model.fan(q, -1); i++) {
            int at = i;
            same("fan(" + q + ", " + at + ")", () -> queen.fan(q, at), () -> model.fan(q, at));
        }
    }

    private void blind(int p) {
        int n = random.nextInt(4) > 0 ? random.nextInt(3) : about(0, 4);
        for (int what = random.nextInt(6); what < 6; what += 1 + random.nextInt(6)) {
            int x = what;
            same("blind(" + p + ", " + n + ", " + x + ")", () -> queen.blind(p, n, x), () -> model.blind(p, n, x));
        }
        int bad = about(0, 5);
        same("blind(" + p + ", 1, " + bad + ")", () -> queen.blind(p, 1, bad), () -> model.blind(p, 1, bad));
    }

    private void evenings() {
        int seed = random.nextInt(3) == 0 ? random.nextInt() : random.nextInt(100);
        int many = random.nextInt(3) > 0 ? random.nextInt(4) : about(0, 60);
        int laws = about(0, 3);
        boolean luck = random.nextBoolean();
        int who = random.nextBoolean() ? person() : about(-3, 5);
        same("evenings(" + seed + ", " + many + ", " + laws + ", " + luck + ", " + who + ")",
            () -> queen.evenings(seed, many, laws, luck, who), () -> model.evenings(seed, many, laws, luck, who));
    }

    // ---- texts

    private void text() {
        List<String> tokens = table();
        boolean spoil = random.nextInt(5) < 2;
        if (spoil) {
            for (int i = Math.max(0, random.nextInt(4) - 2); i >= 0; i--) {
                spoil(tokens);
            }
        }
        StringBuilder text = new StringBuilder();
        for (String t : tokens) {
            text.append(t);
            boolean tight = ";()+-*/<=".contains(t) && random.nextBoolean();
            text.append(tight ? "" : random.nextInt(20) == 0 ? " \n " : " ");
        }
        if (spoil && random.nextInt(9) == 0 && text.length() > 0) {
            text.setCharAt(random.nextInt(text.length()), (char) random.nextInt(256));
        }
        int n = Math.min(text.length(), 600);
        if (spoil && random.nextInt(9) == 0) {
            n = random.nextInt(n + 1);
        }
        feed(text.toString());
        int most = n;
        if (random.nextInt(10) == 0) {
            int bad = random.nextBoolean() ? -1 - random.nextInt(3) : model.count(8) + 1;
            same("table(" + bad + ")", () -> queen.table(bad), () -> model.table(bad));
        }
        sameCount(8);
        same("table(" + most + ") of '" + text + "'", () -> queen.table(most), () -> model.table(most));
        same("fault()", queen::fault, model::fault);
        sameCount(9);
        look();
    }

    private void feed(String text) {
        for (int at = 0; at < text.length(); at += 20) {
            int[] five = new int[5];
            for (int i = 0; i < 20; i++) {
                int sign = at + i < text.length() ? text.charAt(at + i) : 32;
                five[i / 4] = five[i / 4] << 8 | sign;
            }
            same("feed", () -> queen.feed(five[0], five[1], five[2], five[3], five[4]), () -> model.feed(five));
        }
    }

    private List<String> table() {
        List<String> t = new ArrayList<>();
        int people = 3;
        int pairs = 5;
        if (random.nextInt(4) > 0) {
            people = 2 + random.nextInt(5);
            t.addAll(List.of("people", "" + people, ";"));
        }
        if (random.nextInt(4) > 0) {
            pairs = 1 + (random.nextBoolean() ? random.nextInt(3) : random.nextInt(4) == 0 ? 8 : random.nextInt(9));
            t.addAll(List.of("pairs", "" + pairs, ";"));
        }
        if (random.nextBoolean()) {
            t.addAll(List.of("seed", "" + random.nextInt(10000), ";"));
        }
        if (random.nextInt(3) == 0) {
            fans(t, people, pairs);
        }
        for (int p = 0; p < people; p++) {
            for (String kind : List.of("draws", "holds")) {
                if (random.nextInt(3) == 0) {
                    t.addAll(List.of(kind, "" + p));
                    expr(t, 0);
                    t.add(";");
                }
            }
            if (random.nextInt(4) == 0) {
                t.addAll(List.of("habits", "" + p));
                for (int i = 0; i < 6; i++) {
                    t.add("" + random.nextInt(random.nextBoolean() ? 4 : 100));
                }
                t.add(";");
            }
        }
        return t;
    }

    private void fans(List<String> t, int people, int pairs) {
        List<List<String>> fans = new ArrayList<>();
        for (int p = 0; p < people; p++) {
            fans.add(new ArrayList<>());
        }
        // Sometimes one has a card of every value: fans of ten are rare otherwise.
        boolean full = random.nextInt(4) == 0;
        int whose = random.nextInt(people);
        fans.get(full && random.nextBoolean() ? whose : random.nextInt(people)).add("queen");
        for (int v = 1; v <= pairs; v++) {
            if (full || random.nextInt(4) > 0) {
                int a = full ? whose : random.nextInt(people);
                fans.get(a).add("" + v);
                fans.get((a + 1 + random.nextInt(people - 1)) % people).add("" + v);
            }
        }
        for (int p = 0; p < people; p++) {
            if (!fans.get(p).isEmpty() || random.nextBoolean()) {
                Collections.shuffle(fans.get(p), random);
                t.addAll(List.of("fan", "" + p));
                t.addAll(fans.get(p));
                t.add(";");
            }
        }
    }

    private void expr(List<String> t, int depth) {
        int parts = 1 + (random.nextBoolean() ? 0 : random.nextInt(3));
        boolean test = false;
        for (int i = 0; i < parts; i++) {
            if (i > 0) {
                String op = List.of("+", "-", "*", "/", "<", "=", "and", "or").get(random.nextInt(8));
                if (op.equals("<") || op.equals("=")) {
                    op = test && random.nextInt(30) > 0 ? "+" : op;
                    test = true;
                }
                test &= !op.equals("and") && !op.equals("or");
                t.add(op);
                if (op.equals("and") || op.equals("or")) {
                    nots(t);
                }
            } else {
                nots(t);
            }
            if (random.nextInt(4) == 0 && depth < 6) {
                t.add("(");
                expr(t, depth + 1);
                t.add(")");
            } else if (random.nextInt(3) == 0) {
                t.add("" + (random.nextBoolean() ? random.nextInt(4) : random.nextInt(10000)));
            } else {
                t.add(List.of("size", "own", "turn", "me", "last", "card").get(random.nextInt(6)));
            }
        }
    }

    private void nots(List<String> t) {
        for (int i = random.nextInt(8) == 0 ? random.nextInt(8) : 0; i > 0; i--) {
            t.add("not");
        }
    }

    private void copyLine(List<String> t) {
        List<Integer> starts = new ArrayList<>(List.of(0));
        for (int i = 0; i < t.size(); i++) {
            if (t.get(i).equals(";")) {
                starts.add(i + 1);
            }
        }
        if (starts.size() > 1) {
            int which = random.nextInt(starts.size() - 1);
            List<String> line = new ArrayList<>(t.subList(starts.get(which), starts.get(which + 1)));
            if (random.nextBoolean() && line.size() > 1 && line.get(1).length() == 1) {
                line.set(1, "" + random.nextInt(7));
            }
            t.addAll(starts.get(random.nextInt(starts.size())), line);
        }
    }

    private void spoil(List<String> t) {
        List<String> odd = List.of(";", "(", ")", "+", "<", "=", "not", "queen", "people", "pairs", "seed", "fan", "draws",
            "holds", "habits", "size", "or", "0", "1", "2", "6", "10", "99", "100", "9999", "10000", "00001", "?", "foo");
        int at = t.isEmpty() ? 0 : random.nextInt(t.size());
        switch (random.nextInt(9)) {
            case 5, 6, 7, 8 -> copyLine(t);
            case 0 -> t.add(at, odd.get(random.nextInt(odd.size())));
            case 1 -> { if (!t.isEmpty()) { t.remove(at); } }
            case 2 -> { if (!t.isEmpty()) { t.set(at, odd.get(random.nextInt(odd.size()))); } }
            case 3 -> { if (!t.isEmpty()) { t.add(at, t.get(random.nextInt(t.size()))); } }
            default -> { for (int i = 0; i < 6 + random.nextInt(2); i++) { t.add(at, random.nextBoolean() ? "(" : "not"); } }
        }
    }
}
