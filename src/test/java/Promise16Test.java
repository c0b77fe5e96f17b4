/** Promise 16, peeped. */
public final class Promise16Test {
    /** 0 pairs out of four cards with her among them, 1 pairs; from there on they draw her out of two for ever. */
    private static final String FIRST_OF_FOUR = "people 2;pairs 3;fan 0 1 2 3;fan 1 1 2 3 queen;"
        + "draws 0 (0<turn)*(size-1);draws 1 (1<turn)*(size-1);";
    private static final Checks c = new Checks();

    public static void main(String[] args) {
        without();
        fromAFanWithTheQueen();
        theLast12();
        ofDrawsThatAreKept();
        wrongInputs();
        c.end("Promise16Test");
    }

    private static void peeped(SootQueen x, int person, long upper, long lower, int many, int took) {
        c.eq("peeped(" + person + ", 0)", x.peeped(person, 0), upper);
        c.eq("peeped(" + person + ", 1)", x.peeped(person, 1), lower);
        c.eq("peeped(" + person + ", 2)", x.peeped(person, 2), many);
        c.eq("peeped(" + person + ", 3)", x.peeped(person, 3), took);
    }

    private static void without() {
        c.about("promise 16: (1 by 1 without such)");
        SootQueen x = c.told(Checks.FOUR);
        for (int person = 0; person < 4; person++) {
            peeped(x, person, 1, 1, 0, 0);
        }
        x.draw(9);
        peeped(x, 0, 1, 1, 0, 0);
        c.eq("0 draws from 2, who has her", x.draw(1), 3);
        peeped(x, 0, 2, 3, 1, 0);
        c.eq("2 has her himself and draws from 3", x.draw(1), 3);
        peeped(x, 2, 1, 1, 0, 0);
        peeped(x, 1, 1, 1, 0, 0);
    }

    private static void fromAFanWithTheQueen() {
        c.about("promise 16: DRAWS .. that one did from a FAN with the QUEEN in it: how many there were, how often he drew her");
        SootQueen x = c.told(Checks.FOUR);
        x.play(200);
        // 0 drew from 2 with her in a fan of 3 both times.
        peeped(x, 0, 4, 9, 2, 0);
        peeped(x, 2, 1, 1, 0, 0);
        peeped(x, 3, 1, 1, 0, 0);
        SootQueen her = c.told("fan 0 1;fan 1 queen 1 2;fan 2 2;");
        her.draw(0);
        peeped(her, 0, 2, 3, 1, 1);
        c.about("promise 16: a FAN of her alone: none of it would have been another one");
        SootQueen alone = c.told("pairs 1;fan 0 1;fan 1 queen;fan 2 1;");
        alone.draw(0);
        peeped(alone, 0, 0, 1, 1, 1);
        c.about("promise 16: the FAN's size is that before the DRAW");
        SootQueen full = c.told(Checks.FULL);
        full.draw(9);
        peeped(full, 0, 9, 10, 1, 0);
    }

    private static void theLast12() {
        c.about("promise 16: of the last 12 of these (or as many as there are), as a fraction in lowest terms");
        SootQueen x = c.told(FIRST_OF_FOUR);
        long half = 1;
        for (int many = 1; many <= 15; many++) {
            x.play(1);
            c.eq("0 drew", x.count(3), 1);
            if (many <= 12) {
                peeped(x, 0, 3, 4 * half, many, many - 1);
                half *= 2;
            } else {
                peeped(x, 0, 1, 4096, many, many - 1);
            }
            x.play(1);
            // His first one, a pair, was from 0 without her.
            peeped(x, 1, 1, many == 1 ? 1 : 1L << Math.min(many - 1, 12), many - 1, many - 1);
        }
    }

    private static void ofDrawsThatAreKept() {
        c.about("promise 16: of DRAWS that are kept");
        SootQueen x = c.told(Checks.EVER);
        x.play(59);
        peeped(x, 0, 1, 4096, 30, 30);
        x.play(1);
        peeped(x, 1, 1, 4096, 30, 30);
        x.play(200);
        peeped(x, 0, 1, 4096, 30, 30);
        for (int i = 0; i < 58; i++) {
            x.undo();
        }
        peeped(x, 0, 1, 2, 1, 1);
        peeped(x, 1, 1, 2, 1, 1);
        x.undo();
        peeped(x, 1, 1, 1, 0, 0);
        x.undo();
        peeped(x, 0, 1, 1, 0, 0);
        SootQueen first = c.told(FIRST_OF_FOUR);
        first.play(61);
        peeped(first, 0, 1, 4096, 30, 30);
    }

    private static void wrongInputs() {
        c.about("promise 16: NoSuchElementException: also another what");
        SootQueen x = c.told(Checks.EVER);
        for (int what : new int[] {-1, -2, 4, 5, Checks.MIN, Checks.MAX}) {
            c.noSuch("peeped(0, " + what + ")", () -> x.peeped(0, what));
        }
        for (int who : new int[] {-1, 2, 6, Checks.MIN, Checks.MAX}) {
            for (int what = 0; what <= 3; what++) {
                int w = what;
                c.noSuch("peeped(" + who + ", " + w + ")", () -> x.peeped(who, w));
            }
        }
    }
}
