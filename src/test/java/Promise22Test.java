/** Promise 22, isOut. */
public final class Promise22Test {
    private static final Checks c = new Checks();

    public static void main(String[] args) {
        c.about("promise 22: behind how many DRAWS one is OUT (0: now; none: not in 200)");
        SootQueen x = c.told(Checks.FOUR);
        int[][] due = {{5, 0, -1, 3}, {4, 0, -1, 2}, {3, 0, -1, 1}, {2, 0, -1, 0}, {1, 0, -1, 0}, {0, 0, -1, 0}};
        for (int i = 0; i < due.length; i++) {
            for (int person = 0; person < 4; person++) {
                c.eq("behind " + i + ": isOut(" + person + ")", x.isOut(person), due[i][person]);
            }
            c.eq("what is now stays", x.count(4), i);
            x.play(1);
        }
        c.about("promise 22: OUT by RULES, behind the very same DRAW");
        SootQueen both = c.told("pairs 1;fan 0 1;fan 1 1;fan 2 queen;");
        c.eq("isOut(0)", both.isOut(0), 1);
        c.eq("isOut(1)", both.isOut(1), 1);
        c.eq("who loses never is", both.isOut(2), -1);
        SootQueen over = c.told("people 6;fan 4 queen;");
        for (int person = 0; person < 6; person++) {
            c.eq("over from the first on: isOut(" + person + ")", over.isOut(person), person == 4 ? -1 : 0);
        }
        c.about("promise 22: NONE: none");
        SootQueen ever = c.told(Checks.EVER);
        c.eq("isOut(0)", ever.isOut(0), -1);
        c.eq("isOut(1)", ever.isOut(1), -1);
        c.about("promise 22: none: not in 200");
        c.eq("behind 199", c.told(Checks.overBehind(199)).isOut(0), 199);
        c.eq("behind 200", c.told(Checks.overBehind(200)).isOut(1), 200);
        c.eq("behind 200: who loses", c.told(Checks.overBehind(200)).isOut(0), -1);
        c.eq("behind 201", c.told(Checks.overBehind(201)).isOut(0), -1);
        c.eq("behind 201: who loses", c.told(Checks.overBehind(201)).isOut(1), -1);
        SootQueen one = c.told(Checks.overBehind(201));
        one.play(1);
        c.eq("one of 201 is done", one.isOut(0), 200);
        c.about("promise 22: NoSuchElementException: no such PERSON");
        for (int who : new int[] {-1, -2, 4, 6, Checks.MIN, Checks.MAX}) {
            c.noSuch("isOut(" + who + ")", () -> x.isOut(who));
        }
        c.end("Promise22Test");
    }
}
