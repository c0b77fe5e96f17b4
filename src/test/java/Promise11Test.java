/** Promise 11, ends: played by rules, what is now stays. */
public final class Promise11Test {
    private static final Checks c = new Checks();

    public static void main(String[] args) {
        played();
        atMost200();
        c.about("promise 11: NoSuchElementException: another what");
        SootQueen x = c.told(Checks.FOUR);
        for (int what : new int[] {-1, -2, 2, 3, Checks.MIN, Checks.MAX}) {
            c.noSuch("ends(" + what + ")", () -> x.ends(what));
        }
        x.play(200);
        c.noSuch("ends(2), over", () -> x.ends(2));
        c.end("Promise11Test");
    }

    private static void played() {
        c.about("promise 11: PLAYED: who loses (what 0; NONE: none), how many DRAWS (1)");
        SootQueen x = c.told(Checks.FOUR);
        for (int left = 5; left >= 0; left--) {
            c.eq("ends(0)", x.ends(0), 2);
            c.eq("ends(1)", x.ends(1), left);
            x.play(1);
        }
        SootQueen over = c.told("people 6;fan 5 queen;");
        c.eq("over from the first on: ends(0)", over.ends(0), 5);
        c.eq("over from the first on: ends(1)", over.ends(1), 0);
        c.about("promise 11: PLAYED by RULES: .. what is now stays");
        SootQueen now = c.told(Checks.FOUR + "draws 0 last;draws 3 last;");
        now.draw(1);
        now.ends(0);
        c.fans(now, "1 2 3", "", "queen 1", "2 3");
        c.eq("turn", now.count(3), 2);
        c.eq("draws done", now.count(4), 1);
        c.eq("draws kept", now.count(5), 1);
        c.eq("'last'", now.person(0, 1), 1);
        c.eq("'last'", now.person(3, 1), 0);
        c.eq("ends(1) is the same again", now.ends(1), now.ends(1));
        c.about("promise 11: 'turn' and 'last' go on from what they are now");
        SootQueen turn = c.told("people 2;pairs 1;fan 0 1;fan 1 1 queen;draws 0 turn=2;draws 1 turn=1;");
        c.eq("at turn 0 he pairs", turn.ends(0), 1);
        c.eq("ends(1)", turn.ends(1), 1);
        turn.draw(1);
        turn.draw(1);
        c.eq("at turn 2 he draws her, and 1 pairs at turn 3", turn.ends(0), 0);
        c.eq("ends(1)", turn.ends(1), 2);
        SootQueen last = c.told("people 2;pairs 1;fan 0 1;fan 1 1 queen;draws 0 last;draws 1 last;");
        c.eq("'last' 0: he pairs", last.ends(1), 1);
        last.draw(1);
        last.draw(1);
        c.eq("'last' 1: they draw her for ever", last.ends(1), 200);
        c.eq("ends(0)", last.ends(0), -1);
    }

    private static void atMost200() {
        c.about("promise 11: 200 DRAWS at most; none, if it isn't OVER then");
        SootQueen ever = c.told(Checks.EVER);
        c.eq("for ever: ends(0)", ever.ends(0), -1);
        c.eq("for ever: ends(1)", ever.ends(1), 200);
        ever.play(200);
        c.eq("from there on: ends(0)", ever.ends(0), -1);
        c.eq("from there on: ends(1)", ever.ends(1), 200);
        int[] draws = {1, 2, 3, 198, 199, 200, 201, 202};
        int[] loser = {1, 0, 1, 0, 1, 0, -1, -1};
        for (int i = 0; i < draws.length; i++) {
            SootQueen x = c.told(Checks.overBehind(draws[i]));
            c.eq("over behind " + draws[i] + ": ends(0)", x.ends(0), loser[i]);
            c.eq("over behind " + draws[i] + ": ends(1)", x.ends(1), Math.min(draws[i], 200));
        }
        SootQueen later = c.told(Checks.overBehind(201));
        later.draw(1);
        c.eq("one of 201 is done", later.ends(0), 1);
        c.eq("200 more", later.ends(1), 200);
    }
}
