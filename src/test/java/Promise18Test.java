/** Promise 18, choose. */
public final class Promise18Test {
    private static final Checks c = new Checks();

    public static void main(String[] args) {
        fewest();
        whereSheWasPut();
        fromWhom();
        none();
        spent();
        wrongInputs();
        c.end("Promise18Test");
    }

    private static void chosen(SootQueen x, int person, int place, int many) {
        c.eq("choose(" + person + ", 0)", x.choose(person, 0), place);
        c.eq("choose(" + person + ", 1)", x.choose(person, 1), many);
    }

    private static void fewest() {
        c.about("promise 18: the place at which the QUEEN is in the fewest ARRANGEMENTS; of like ones the first; in how many");
        chosen(c.told("people 2;pairs 1;fan 0 1;fan 1 1 queen;"), 0, 0, 1);
        chosen(c.told("people 2;pairs 2;fan 0 1 2;fan 1 1 2 queen;"), 0, 0, 2);
        chosen(c.told("people 2;pairs 1;fan 0 1 queen;fan 1 1;"), 0, 0, 0);
        // 2 saw no pair laid aside: 0 has 1 2 queen, 2 1 queen, 1 queen 2 or queen 1 2.
        SootQueen x = c.told("pairs 2;fan 0 1 2;fan 1 queen 1;fan 2 2;");
        x.draw(0);
        chosen(x, 2, 0, 1);
        // Put ahead of all: queen 1 2, queen 2 1, 2 1 queen or 2 queen 1.
        SootQueen ahead = c.told("pairs 2;fan 0 1 2;fan 1 queen 1;fan 2 2;holds 0 0;");
        ahead.draw(0);
        chosen(ahead, 2, 1, 1);
    }

    private static void whereSheWasPut() {
        c.about("promise 18: who saw where she was put knows it");
        for (int hold = 0; hold <= 3; hold++) {
            SootQueen x = c.told("people 2;pairs 3;fan 0 1 2 3;fan 1 queen 1 2 3;holds 0 " + hold + ";");
            chosen(x, 0, 0, 6);
            x.draw(0);
            chosen(x, 1, hold == 0 ? 1 : 0, 0);
            chosen(x, 0, 0, 0);
        }
        SootQueen alone = c.told("pairs 1;fan 0 1;fan 1 queen;fan 2 1;");
        chosen(alone, 0, 0, 1);
    }

    private static void fromWhom() {
        c.about("promise 18: of THE NEXT one's FAN now (from whom he would draw, were it his TURN)");
        // 2 would draw from 0, who has her in none of those 0 knows.
        SootQueen x = c.told("people 4;pairs 3;fan 0 1 2;fan 2 queen 3 1;fan 3 2 3;");
        chosen(x, 0, 0, 8);
        chosen(x, 2, 0, 0);
        chosen(x, 3, 0, 6);
        c.eq("0 draws what isn't she", x.draw(1), 3);
        // 0 has two that 3 doesn't know and, behind these, one that isn't a pair to them, as far as 3 knows.
        c.eq("fan 0 has three places now", x.fan(0, -1), 3);
        chosen(x, 3, 0, 4);
        SootQueen out = c.told("people 6;fan 5 1 2;fan 1 1 queen;fan 3 2;");
        c.eq("5 draws from 1", out.person(5, 0), 1);
        chosen(out, 5, 0, 2);
        chosen(out, 3, 0, 2);
    }

    private static void none() {
        c.about("promise 18: NONE: he is OUT, or it is OVER");
        SootQueen x = c.told(Checks.FOUR);
        chosen(x, 1, -1, -1);
        x.play(200);
        for (int person = 0; person < 4; person++) {
            chosen(x, person, -1, -1);
        }
        chosen(c.told("fan 1 queen;"), 1, -1, -1);
    }

    private static void spent() {
        c.about("promise 18: -2: SPENT");
        chosen(c.told(Checks.FULL), 1, -2, -2);
        SootQueen x = c.told(Checks.EVER);
        x.play(60);
        chosen(x, 0, 0, 0);
        x.play(1);
        chosen(x, 0, -2, -2);
        chosen(x, 1, -2, -2);
        c.about("promise 18: NONE all the same, where it is OVER or he is OUT");
        x.draw(0);
        c.eq("over", x.count(3), -1);
        chosen(x, 0, -1, -1);
        SootQueen out = c.told("people 4;pairs 9;fan 1 1 2 3 4 5 6 7 8 9;fan 2 queen 1 2 3 4 5 6 7 8 9;");
        chosen(out, 1, -2, -2);
        chosen(out, 0, -1, -1);
    }

    private static void wrongInputs() {
        c.about("promise 18: NoSuchElementException: also another what");
        SootQueen x = c.told(Checks.EVER);
        SootQueen over = c.told("fan 1 queen;");
        for (int what : new int[] {-1, -2, 2, 3, Checks.MIN, Checks.MAX}) {
            c.noSuch("choose(0, " + what + ")", () -> x.choose(0, what));
            c.noSuch("over: choose(0, " + what + ")", () -> over.choose(0, what));
        }
        for (int who : new int[] {-1, 2, 6, Checks.MIN, Checks.MAX}) {
            c.noSuch("choose(" + who + ", 0)", () -> x.choose(who, 0));
            c.noSuch("choose(" + who + ", 1)", () -> x.choose(who, 1));
        }
        c.noSuch("over: choose(3, 0)", () -> over.choose(3, 0));
        x.play(61);
        c.noSuch("spent: choose(0, 2)", () -> x.choose(0, 2));
    }
}
