/** Promise 21, wouldLose. */
public final class Promise21Test {
    private static final Checks c = new Checks();

    public static void main(String[] args) {
        atAPlace();
        places();
        twoHundredMore();
        whatIsNowStays();
        wrongInputs();
        c.end("Promise21Test");
    }

    /** How many places, the first, then who would lose by each place. */
    private static void would(SootQueen x, int many, int first, int... losers) {
        c.eq("wouldLose(NONE)", x.wouldLose(-1), many);
        c.eq("wouldLose(-2)", x.wouldLose(-2), first);
        for (int place = 0; place < losers.length; place++) {
            c.eq("wouldLose(" + place + ")", x.wouldLose(place), losers[place]);
        }
        c.noSuch("wouldLose(" + losers.length + ")", () -> x.wouldLose(losers.length));
    }

    private static void atAPlace() {
        c.about("promise 21: who would lose (place 0 on; NONE: none)");
        would(c.told(Checks.EVER), 1, 0, 1, -1);
        // At place 0 he draws her, and 1 pairs at place 0; at place 1 he pairs and is rid of it.
        would(c.told("people 2;pairs 1;fan 0 1;fan 1 queen 1;draws 1 0;"), 1, 1, 0, 1);
        SootQueen turn = c.told(Checks.EVER);
        turn.draw(1);
        // It is 1's turn now: who has her is 0.
        would(turn, 1, 0, 0, -1);
        c.about("promise 21: 'turn' and 'last' go on behind that");
        // If 0 draws her, 1 does at turn 1, 0 again at the place of his last draw, and 1 pairs at turn 3.
        would(c.told("people 2;pairs 1;fan 0 1;fan 1 1 queen;draws 0 last;draws 1 turn=1;"), 1, 0, 1, 0);
    }

    private static void places() {
        c.about("promise 21: how many places there are by which he whose TURN it is wouldn't (NONE), the first (-2; NONE: none)");
        // 0 has her and 1 one card alone: he pairs and has lost.
        would(c.told("people 2;pairs 1;fan 0 1 queen;fan 1 1;"), 0, -1, 0);
        // 2 has her alone: whatever 0 and 1 do, she isn't drawn from him at once.
        would(c.told("pairs 1;fan 0 1;fan 1 1;fan 2 queen;"), 1, 0, 2);
        // By each pair he is rid of his cards, by the queen he isn't, and then 1 pairs at place 0.
        SootQueen many = c.told("people 2;pairs 1;fan 0 1;fan 1 queen 1;draws 1 0;");
        would(many, 1, 1, 0, 1);
        c.about("promise 21: (it being OVER then)");
        // By the queen it goes on for ever: that is no place by which he wouldn't.
        would(c.told("people 2;pairs 1;fan 0 1;fan 1 queen 1;draws 0 1;draws 1 1;"), 1, 1, -1, 1);
        // By a pair 1 is left with her and pairs too; by the queen they draw her to and fro for ever.
        would(c.told("people 2;pairs 2;fan 0 1 2;fan 1 1 2 queen;draws 0 size-1;draws 1 size-1;"), 2, 0, 1, 1, -1);
        would(c.told("people 2;pairs 2;fan 0 1 2;fan 1 queen 1 2;draws 0 size-1;draws 1 size-1;"), 2, 1, -1, 1, 1);
    }

    private static void twoHundredMore() {
        c.about("promise 21: (200 DRAWS more at most)");
        // Drawing her first, it is over behind so many draws in all: 200 more are 201.
        would(c.told(Checks.overBehind(200)), 1, 0, 1, 0);
        would(c.told(Checks.overBehind(201)), 2, 0, 1, 1);
        would(c.told(Checks.overBehind(202)), 1, 0, 1, -1);
    }

    private static void whatIsNowStays() {
        c.about("promise 21: what is now stays");
        SootQueen x = c.told(Checks.FOUR + "draws 0 last;draws 2 last;");
        x.draw(1);
        x.wouldLose(1);
        x.wouldLose(-1);
        c.fans(x, "1 2 3", "", "queen 1", "2 3");
        c.eq("turn", x.count(3), 2);
        c.eq("draws", x.count(4), 1);
        c.eq("kept", x.count(5), 1);
        c.eq("'last' of 0", x.person(0, 1), 1);
        c.eq("'last' of 2", x.person(2, 1), 0);
    }

    private static void wrongInputs() {
        c.about("promise 21: NoSuchElementException: no such place (NONE and -2 are), it is OVER");
        SootQueen x = c.told(Checks.EVER);
        for (int place : new int[] {2, 3, 9, -3, -4, Checks.MIN, Checks.MAX}) {
            c.noSuch("wouldLose(" + place + ")", () -> x.wouldLose(place));
        }
        SootQueen full = c.told(Checks.FULL);
        c.yes("wouldLose(9) of ten", full.wouldLose(9) >= -1);
        c.noSuch("wouldLose(10) of ten", () -> full.wouldLose(10));
        x.draw(0);
        for (int place = -3; place <= 1; place++) {
            int p = place;
            c.noSuch("over: wouldLose(" + p + ")", () -> x.wouldLose(p));
        }
        SootQueen over = c.told("fan 2 queen;");
        c.noSuch("over from the first on: wouldLose(NONE)", () -> over.wouldLose(-1));
        c.noSuch("over from the first on: wouldLose(0)", () -> over.wouldLose(0));
        c.eq("none of these is STATUS 1", x.count(10), 0);
    }
}
