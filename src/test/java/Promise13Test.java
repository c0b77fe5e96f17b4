/** Promise 13, blind. */
public final class Promise13Test {
    private static final Checks c = new Checks();

    public static void main(String[] args) {
        handedToAndFro();
        noDraws();
        longFractions();
        overMeansNothingMore();
        spent();
        wrongInputs();
        c.end("Promise13Test");
    }

    private static void chance(SootQueen x, int person, int n, int what, long upper, long lower) {
        c.eq("blind(" + person + ", " + n + ", " + what + ")", x.blind(person, n, what), upper);
        c.eq("blind(" + person + ", " + n + ", " + (what + 1) + ")", x.blind(person, n, what + 1), lower);
    }

    private static void handedToAndFro() {
        c.about("promise 13: how likely one has the QUEEN (what 0, 1), is OUT (2, 3), has lost (4, 5); in lowest terms");
        SootQueen x = c.told(Checks.EVER);
        chance(x, 0, 1, 0, 1, 2);
        chance(x, 1, 1, 0, 1, 2);
        chance(x, 0, 1, 2, 1, 2);
        chance(x, 1, 1, 2, 0, 1);
        chance(x, 0, 1, 4, 0, 1);
        chance(x, 1, 1, 4, 1, 2);
        chance(x, 0, 2, 0, 1, 4);
        chance(x, 1, 2, 0, 3, 4);
        chance(x, 0, 2, 4, 1, 4);
        chance(x, 1, 2, 4, 1, 2);
        chance(x, 0, 3, 0, 3, 8);
        chance(x, 0, 3, 2, 5, 8);
        chance(x, 0, 4, 4, 5, 16);
        chance(x, 1, 4, 4, 5, 8);
        chance(x, 1, 4, 0, 11, 16);
        chance(x, 1, 4, 2, 5, 16);
        c.fans(x, "1", "1 queen");
        c.eq("what is now stays", x.count(4), 0);
        c.eq("turn", x.count(3), 0);
        SootQueen four = c.told(Checks.FOUR);
        chance(four, 0, 1, 0, 1, 3);
        chance(four, 2, 1, 0, 2, 3);
        chance(four, 3, 1, 0, 0, 1);
        chance(four, 1, 4, 2, 1, 1);
    }

    private static void noDraws() {
        c.about("promise 13: BLIND for n DRAWS (0 to 4): as it is now by none");
        SootQueen x = c.told(Checks.FOUR);
        for (int person = 0; person < 4; person++) {
            chance(x, person, 0, 0, person == 2 ? 1 : 0, 1);
            chance(x, person, 0, 2, person == 1 ? 1 : 0, 1);
            chance(x, person, 0, 4, 0, 1);
        }
        x.play(200);
        for (int person = 0; person < 4; person++) {
            chance(x, person, 0, 0, person == 2 ? 1 : 0, 1);
            chance(x, person, 0, 2, person == 2 ? 0 : 1, 1);
            chance(x, person, 0, 4, person == 2 ? 1 : 0, 1);
        }
    }

    /**
     * 0 has 8 cards, 1 these and the queen. Behind three 0 has her by 8/9 1/7 + 1/9 1/9 1/9 + 1/9 8/9, behind four by
     * 8/9 1/7 6/7 + 1/9 1/9 1/9 8/9 + 1/9 8/9 6/7: who has her draws pairs for sure, else one place of all is hers.
     */
    private static void longFractions() {
        c.about("promise 13: a FAN of 9 CARDS, up to 4 DRAWS");
        SootQueen x = c.told("people 2;pairs 9;fan 0 1 2 3 4 5 6 7 8;fan 1 queen 1 2 3 4 5 6 7 8;");
        chance(x, 0, 1, 0, 1, 9);
        chance(x, 1, 1, 0, 8, 9);
        chance(x, 0, 2, 0, 8, 81);
        chance(x, 1, 2, 0, 73, 81);
        chance(x, 0, 3, 0, 1159, 5103);
        chance(x, 1, 3, 0, 3944, 5103);
        chance(x, 0, 4, 0, 62600, 321489);
        chance(x, 1, 4, 0, 258889, 321489);
        chance(x, 1, 4, 2, 0, 1);
    }

    private static void overMeansNothingMore() {
        c.about("promise 13: (Once it is OVER nothing more is drawn.)");
        SootQueen x = c.told("fan 1 queen;");
        for (int n = 0; n <= 4; n++) {
            chance(x, 1, n, 0, 1, 1);
            chance(x, 1, n, 2, 0, 1);
            chance(x, 1, n, 4, 1, 1);
            chance(x, 0, n, 0, 0, 1);
            chance(x, 0, n, 2, 1, 1);
            chance(x, 2, n, 4, 0, 1);
        }
        SootQueen one = c.told("people 2;pairs 1;fan 0 1 queen;fan 1 1;");
        for (int n = 1; n <= 4; n++) {
            chance(one, 0, n, 4, 1, 1);
            chance(one, 1, n, 2, 1, 1);
        }
    }

    private static void spent() {
        c.about("promise 13: SPENT: a FAN that is drawn from had more than 9 CARDS");
        SootQueen full = c.told(Checks.FULL);
        chance(full, 1, 0, 0, 1, 1);
        for (int n = 1; n <= 4; n++) {
            for (int what = 0; what <= 5; what++) {
                c.eq("blind(0, " + n + ", " + what + ")", full.blind(0, n, what), -2);
                c.eq("blind(1, " + n + ", " + what + ")", full.blind(1, n, what), -2);
            }
        }
        full.draw(9);
        chance(full, 1, 1, 0, 1, 1);
        // 0 has ten, but pairs before 2 draws from him.
        SootQueen nine = c.told("pairs 9;fan 0 queen 1 2 3 4 5 6 7 8 9;fan 1 1 2 3;fan 2 4 5 6 7 8 9;");
        chance(nine, 0, 3, 0, 8, 9);
        chance(nine, 2, 3, 0, 1, 9);
        // Only if 0 draws the queen has he ten cards when 2 draws from him.
        SootQueen later = c.told("pairs 9;fan 0 1 2 3 4 5 6 7 8 9;fan 1 queen 1;fan 2 2 3 4 5 6 7 8 9;");
        chance(later, 0, 1, 0, 1, 2);
        chance(later, 1, 2, 0, 1, 2);
        chance(later, 1, 3, 0, -2, -2);
        chance(later, 1, 4, 2, -2, -2);
    }

    private static void wrongInputs() {
        c.about("promise 13: NoSuchElementException: also another what");
        SootQueen x = c.told(Checks.EVER);
        for (int who : new int[] {-1, 2, 6, Checks.MIN, Checks.MAX}) {
            c.noSuch("blind(" + who + ", 1, 0)", () -> x.blind(who, 1, 0));
        }
        for (int what : new int[] {-1, -2, 6, 7, Checks.MIN, Checks.MAX}) {
            c.noSuch("blind(0, 1, " + what + ")", () -> x.blind(0, 1, what));
        }
        c.about("promise 13: IllegalArgumentException (behind that): n");
        for (int n : new int[] {-1, -2, 5, 6, Checks.MIN, Checks.MAX}) {
            c.illegal("blind(0, " + n + ", 0)", () -> x.blind(0, n, 0));
            c.noSuch("blind(2, " + n + ", 0)", () -> x.blind(2, n, 0));
            c.noSuch("blind(0, " + n + ", 6)", () -> x.blind(0, n, 6));
        }
        SootQueen full = c.told(Checks.FULL);
        c.illegal("blind(0, 5, 0), though spent", () -> full.blind(0, 5, 0));
        SootQueen over = c.told("fan 1 queen;");
        c.illegal("blind(0, 5, 0), over", () -> over.blind(0, 5, 0));
        c.noSuch("blind(0, 0, 6), over", () -> over.blind(0, 0, 6));
    }
}
