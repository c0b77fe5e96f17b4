/** Promise 15, belief. */
public final class Promise15Test {
    private static final Checks c = new Checks();

    public static void main(String[] args) {
        atTheBeginning();
        whatHeSees();
        whatIsLaidAside();
        whatHeDraws();
        whereItWas();
        whereItWasPut();
        himself();
        nothingHidden();
        tries();
        drawsNotKept();
        wrongInputs();
        c.end("Promise15Test");
    }

    /** All arrangements, and by how many each of the people has her. */
    private static void believes(SootQueen x, int person, int all, int... holders) {
        c.eq("belief(" + person + ", NONE)", x.belief(person, -1), all);
        for (int who = 0; who < holders.length; who++) {
            c.eq("belief(" + person + ", " + who + ")", x.belief(person, who), holders[who]);
        }
    }

    private static void atTheBeginning() {
        c.about("promise 15: he knows his own FAN at the beginning, how many CARDS all others had");
        SootQueen two = c.told("people 2;pairs 1;fan 0 1;fan 1 1 queen;");
        believes(two, 0, 2, 0, 2);
        believes(two, 1, 1, 0, 1);
        c.about("promise 15: no FAN with two alike, all CARDS besides his own being there");
        // 1 has two of queen, 1, 1, 2 and 2 one; or he has her and 2 one of the others.
        SootQueen three = c.told("pairs 2;fan 0 1 2;fan 1 queen 1;fan 2 2;");
        believes(three, 0, 6, 0, 4, 2);
        believes(three, 1, 2, 0, 2, 0);
        believes(three, 2, 8, 4, 4, 0);
        c.about("promise 15: (two of each VALUE that isn't laid aside at the beginning)");
        SootQueen some = c.told("pairs 9;fan 0 7;fan 1 7 queen;");
        believes(some, 0, 2, 0, 2, 0);
        believes(some, 2, 2, 0, 2, 0);
    }

    private static void whatHeSees() {
        c.about("promise 15: all DRAWS that are done since, as they went");
        SootQueen x = c.told("pairs 2;fan 0 1 2;fan 1 queen 1;fan 2 2;");
        x.draw(0);
        // 0: 1 2 or 2 1 and 1: queen 1, or 0: 1 queen or queen 1 and 1: 2 1: else a pair were laid aside.
        believes(x, 2, 4, 4, 0, 0);
        // As no fan has two of them, 2 has a 2.
        believes(x, 1, 2, 2, 0, 0);
        believes(x, 0, 2, 2, 0, 0);
        x.undo();
        believes(x, 2, 8, 4, 4, 0);
        c.about("promise 15: who drew at which place");
        x.draw(1);
        c.eq("a 1 is laid aside", x.fan(0, -1), 1);
        // 0: 1 2 or 2 1 and 1: queen 1, or 0: 1 queen or queen 1 and 1: 2 1.
        believes(x, 2, 4, 2, 2, 0);
    }

    private static void whatIsLaidAside() {
        c.about("promise 15: which VALUE was laid aside");
        // Seen by 2, who has none: 0 has 1 2 or 2 1, 1 has 1, 2 and her in any order; then 1 has 1 at place 0.
        SootQueen x = c.told("pairs 2;fan 0 1 2;fan 1 1 2 queen;");
        believes(x, 2, 12, 0, 12, 0);
        c.eq("draw(0)", x.draw(0), 101);
        believes(x, 2, 4, 0, 4, 0);
        believes(x, 0, 2, 0, 2, 0);
    }

    private static void whatHeDraws() {
        c.about("promise 15: what the CARDS were that he himself drew or that were drawn from him");
        SootQueen x = c.told("pairs 2;fan 0 1;fan 1 2 queen;fan 2 1 2;");
        believes(x, 0, 8, 0, 4, 4);
        believes(x, 1, 2, 0, 2, 0);
        believes(x, 2, 6, 2, 4, 0);
        c.eq("draw(0)", x.draw(0), 2);
        // 1 has 2 queen and 2 has 1 2 or 2 1, or 1 has 2 1 and 2 has 2 queen or queen 2.
        believes(x, 0, 4, 0, 2, 2);
        believes(x, 1, 2, 0, 2, 0);
        // 2 doesn't know what 0 drew: 0 has two of queen, 1, 2 in any order, 1 the third.
        believes(x, 2, 6, 4, 2, 0);
    }

    /** 1 sees his 1 laid aside, draws the 2 at place 0 of 2, who then lays aside a 3 from place 1 of 0. */
    private static void whereItWas() {
        c.about("promise 15: a pair that was laid aside is there no more");
        SootQueen x = c.told("pairs 3;fan 0 1 2 3;fan 1 1 queen;fan 2 2 3;");
        believes(x, 1, 12, 0, 12, 0);
        believes(x, 0, 24, 0, 12, 12);
        c.eq("draw(0)", x.draw(0), 101);
        believes(x, 1, 12, 0, 12, 0);
        believes(x, 0, 6, 0, 2, 4);
        c.eq("draw(0)", x.draw(0), 2);
        believes(x, 1, 6, 0, 6, 0);
        believes(x, 0, 6, 0, 4, 2);
        c.eq("draw(1)", x.draw(1), 103);
        // 2 ahead of 3, wherever the 1 was.
        believes(x, 1, 3, 0, 3, 0);
        believes(x, 0, 2, 0, 2, 0);
    }

    private static void whereItWasPut() {
        c.about("promise 15: where what wasn't was put");
        // 0 puts what he draws at place 0 or behind all, and 2 draws that at once, or what was 0's from the beginning on.
        String text = "pairs 3;fan 0 1;fan 1 queen 2 3;fan 2 1 2 3;";
        for (int hold = 0; hold <= 1; hold++) {
            SootQueen x = c.told(text + "holds 0 " + hold + ";");
            believes(x, 2, 24, 6, 18, 0);
            c.eq("0 draws her", x.draw(0), 0);
            believes(x, 2, 24, 12, 12, 0);
            c.eq("1 pairs", x.draw(1), 102);
            // 1 has 2 at places 1 or 2, as place 0 was drawn from: 2 has seen that, not what was drawn.
            believes(x, 2, 12, 8, 4, 0);
            c.eq("2 draws her from where she was put", x.draw(hold), 0);
            believes(x, 2, 4, 0, 0, 4);
        }
    }

    private static void himself() {
        c.about("promise 15: (who NONE: all ARRANGEMENTS; he himself: all or none)");
        SootQueen x = c.told("pairs 2;fan 0 1 2;fan 1 queen 1;fan 2 2;");
        c.eq("he has her: all", x.belief(1, 1), 2);
        c.eq("he hasn't: none", x.belief(0, 0), 0);
        x.draw(0);
        c.eq("she was drawn from him: none", x.belief(1, 1), 0);
        c.eq("he drew her: all", x.belief(0, 0), x.belief(0, -1));
        c.yes("some", x.belief(0, 0) > 0);
    }

    private static void nothingHidden() {
        c.about("promise 15: what is OVER, or where others have none: one ARRANGEMENT");
        SootQueen over = c.told("fan 1 queen;");
        believes(over, 0, 1, 0, 1, 0);
        believes(over, 1, 1, 0, 1, 0);
        believes(over, 2, 1, 0, 1, 0);
        SootQueen end = c.told(Checks.EVER);
        end.draw(1);
        end.draw(0);
        believes(end, 0, 1, 1, 0);
        believes(end, 1, 1, 1, 0);
    }

    private static void tries() {
        c.about("promise 15: each one that is left over is a TRY; SPENT: there would be more than 20000");
        // Nine places for 1 to 9: 9 + 9 * 8 + .. tries, far above 20000.
        SootQueen full = c.told(Checks.FULL);
        believes(full, 1, -2, -2, -2);
        believes(full, 0, -2, -2, -2);
        // Seven values in seven places: 7 + 7 * 6 + .. + 7! = 13699 tries; with her in eight places 109600.
        SootQueen seven = c.told("people 2;pairs 7;fan 0 1 2 3 4 5 6 7;fan 1 queen 1 2 3 4 5 6 7;");
        believes(seven, 1, 5040, 0, 5040);
        believes(seven, 0, -2, -2, -2);
        c.about("promise 15: a FAN that has it already ends it, but it is a TRY");
        // 0 is out and sees others with 4, 4 and 1 cards: 19033 tries; with 3, 5 and 1 there are 20017.
        SootQueen below = c.told("people 4;pairs 4;fan 1 1 2 3 queen;fan 2 1 2 3 4;fan 3 4;");
        believes(below, 0, 5184, 0, 2304, 2304, 576);
        SootQueen above = c.told("people 4;pairs 4;fan 1 1 2 3;fan 2 1 2 3 4 queen;fan 3 4;");
        believes(above, 0, -2, -2, -2, -2, -2);
        c.about("promise 15: SPENT stays so, whatever was drawn since, and is no matter of the last one who asked");
        above.play(4);
        believes(above, 0, -2, -2);
        c.yes("1 knows more", above.belief(1, -1) > 0);
        below.belief(1, -1);
        believes(below, 0, 5184, 0);
    }

    private static void drawsNotKept() {
        c.about("promise 15: (BELIEF is SPENT, if some aren't kept any more)");
        SootQueen x = c.told(Checks.EVER);
        x.play(59);
        believes(x, 0, 1, 1, 0);
        x.play(1);
        believes(x, 0, 1, 0, 1);
        x.image();
        x.play(1);
        believes(x, 0, -2, -2, -2);
        believes(x, 1, -2, -2, -2);
        x.undo();
        believes(x, 0, -2, -2, -2);
        for (int i = 0; i < 59; i++) {
            x.undo();
        }
        c.eq("none can be undone, one is done", x.count(4), 1);
        believes(x, 0, -2, -2, -2);
        x.draw(0);
        believes(x, 1, -2, -2, -2);
        c.yes("restore()", x.restore());
        believes(x, 0, 1, 0, 1);
        c.eq("table", Checks.table(x, Checks.EVER), 0);
        believes(x, 0, 2, 0, 2);
    }

    private static void wrongInputs() {
        c.about("promise 15: NoSuchElementException: also no such other one");
        SootQueen x = c.told(Checks.EVER);
        for (int who : new int[] {-1, -2, 2, 3, 6, Checks.MIN, Checks.MAX}) {
            c.noSuch("belief(" + who + ", NONE)", () -> x.belief(who, -1));
            c.noSuch("belief(" + who + ", 0)", () -> x.belief(who, 0));
        }
        for (int who : new int[] {-2, -3, 2, 3, 6, Checks.MIN, Checks.MAX}) {
            c.noSuch("belief(0, " + who + ")", () -> x.belief(0, who));
        }
        x.play(61);
        c.noSuch("belief(0, 2), though spent", () -> x.belief(0, 2));
        c.noSuch("belief(2, 0), though spent", () -> x.belief(2, 0));
    }
}
