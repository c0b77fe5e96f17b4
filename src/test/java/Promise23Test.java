/** Promise 23, rank. */
public final class Promise23Test {
    private static final Checks c = new Checks();

    public static void main(String[] args) {
        c.about("promise 23: how many PEOPLE are OUT behind fewer DRAWS");
        SootQueen x = c.told(Checks.FOUR);
        // 1 is out now, 3 behind three draws, 0 behind five.
        ranks(x, 2, 0, -1, 1);
        c.eq("what is now stays", x.count(4), 0);
        c.about("promise 23: or behind as many, having a lesser number");
        x.play(3);
        ranks(x, 2, 0, -1, 1);
        x.play(2);
        ranks(x, 0, 1, -1, 2);
        ranks(c.told("pairs 1;fan 0 1;fan 1 1;fan 2 queen;"), 0, 1, -1);
        // It is 2's turn, who pairs with 0: both are out behind one draw, 1 was before.
        ranks(c.told("people 4;pairs 1;fan 2 1;fan 3 1 queen;draws 2 0;"), 0, 1, 2, -1);
        ranks(c.told("people 6;fan 4 queen;"), 0, 1, 2, 3, -1, 4);
        ranks(c.told("people 6;fan 0 queen;"), -1, 0, 1, 2, 3, 4);
        c.about("promise 23: none, if he isn't");
        ranks(c.told(Checks.EVER), -1, -1);
        ranks(c.told("pairs 1;fan 0 1;fan 1 1 queen;draws 0 1;draws 1 1;"), -1, -1, 0);
        ranks(c.told(Checks.overBehind(200)), -1, 0);
        ranks(c.told(Checks.overBehind(201)), -1, -1);
        c.about("promise 23: NoSuchElementException: no such PERSON");
        for (int who : new int[] {-1, -2, 4, 6, Checks.MIN, Checks.MAX}) {
            c.noSuch("rank(" + who + ")", () -> x.rank(who));
        }
        c.end("Promise23Test");
    }

    private static void ranks(SootQueen x, int... due) {
        for (int person = 0; person < due.length; person++) {
            c.eq("rank(" + person + ")", x.rank(person), due[person]);
        }
    }
}
