/** Promise 9, play. */
public final class Promise09Test {
    private static final Checks c = new Checks();

    public static void main(String[] args) {
        byRules();
        tillItIsOver();
        c.about("promise 9: IllegalArgumentException: how many");
        SootQueen x = c.told(Checks.FOUR);
        for (int draws : new int[] {-1, -2, 201, 202, Checks.MIN, Checks.MAX}) {
            c.illegal("play(" + draws + ")", () -> x.play(draws));
        }
        c.eq("nothing was drawn", x.count(4), 0);
        x.play(200);
        c.illegal("play(201), over", () -> x.play(201));
        c.illegal("play(-1), over", () -> x.play(-1));
        c.end("Promise09Test");
    }

    private static void byRules() {
        c.about("promise 9: DRAWS by RULES (0 to 200)");
        SootQueen x = c.told(Checks.FOUR);
        c.eq("play(0)", x.play(0), 0);
        c.eq("nothing was drawn", x.count(4), 0);
        c.eq("play(1)", x.play(1), 1);
        c.fans(x, "1 2 3", "", "queen 1", "2 3");
        c.eq("play(2)", x.play(2), 2);
        c.fans(x, "1 3", "", "queen 1 3", "");
        SootQueen held = c.told("people 3;pairs 4;fan 0 1 2;fan 1 3 4 queen;fan 2 1 2 3 4;draws 0 2;holds 0 1;draws 1 0-1;holds 1 card;");
        c.eq("play(1)", held.play(1), 1);
        c.fans(held, "1 queen 2", "3 4", "1 2 3 4");
        c.eq("play(1): a pair of 4", held.play(1), 1);
        c.fans(held, "1 queen 2", "3", "1 2 3");
        c.eq("each of them is kept", held.count(5), 2);
        c.eq("and can be undone", held.undo(), 1);
        c.fans(held, "1 queen 2", "3 4", "1 2 3 4");
        SootQueen ever = c.told(Checks.EVER);
        c.eq("play(200)", ever.play(200), 200);
        c.eq("play(200)", ever.play(200), 200);
        c.eq("play(199)", ever.play(199), 199);
        c.eq("draws done", ever.count(4), 599);
        c.eq("turn", ever.count(3), 1);
        c.eq("who has her", ever.count(6), 0);
    }

    private static void tillItIsOver() {
        c.about("promise 9: till it is OVER: how many were done");
        SootQueen x = c.told(Checks.FOUR);
        c.eq("play(200)", x.play(200), 5);
        c.eq("draws", x.count(4), 5);
        c.eq("over", x.count(3), -1);
        c.eq("play(200), over", x.play(200), 0);
        c.eq("play(1), over", x.play(1), 0);
        c.eq("play(0), over", x.play(0), 0);
        c.eq("STATUS 1 counts none of these", x.count(10), 0);
        SootQueen just = c.told(Checks.FOUR);
        c.eq("play(5)", just.play(5), 5);
        c.eq("over", just.count(7), 2);
        SootQueen begun = c.told("fan 2 queen;");
        c.eq("over from the first on", begun.play(200), 0);
        SootQueen long200 = c.told(Checks.overBehind(200));
        c.eq("over behind 200: play(199)", long200.play(199), 199);
        c.eq("not yet", long200.count(7), -1);
        c.eq("play(200)", long200.play(200), 1);
        c.eq("now", long200.count(7), 0);
    }
}
