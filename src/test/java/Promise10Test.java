/** Promise 10, undo. */
public final class Promise10Test {
    private static final Checks c = new Checks();

    public static void main(String[] args) {
        lastOneFirst();
        noneCanBe();
        asItWas();
        atMost60();
        fromWhatIsOver();
        c.end("Promise10Test");
    }

    private static void lastOneFirst() {
        c.about("promise 10: The last DRAW is UNDONE: how many can be still");
        SootQueen x = c.told(Checks.FOUR + "holds 0 0;holds 2 1;");
        x.draw(1);
        x.draw(1);
        x.draw(2);
        c.fans(x, "3 1", "", "queen 3 1", "");
        c.eq("undo()", x.undo(), 2);
        c.fans(x, "3 1 2", "", "queen 3 1", "2");
        c.eq("turn", x.count(3), 3);
        c.eq("undo()", x.undo(), 1);
        c.fans(x, "3 1 2", "", "queen 1", "2 3");
        c.eq("turn", x.count(3), 2);
        c.eq("draws done", x.count(4), 1);
        c.eq("undo()", x.undo(), 0);
        c.fans(x, "1 2", "", "queen 3 1", "2 3");
        c.eq("turn", x.count(3), 0);
        c.eq("draws done", x.count(4), 0);
        x.draw(0);
        c.eq("another way then", x.count(6), 0);
        c.eq("undo()", x.undo(), 0);
        c.eq("and back", x.count(6), 2);
    }

    private static void noneCanBe() {
        c.about("promise 10: NONE: none can be");
        SootQueen x = c.told(Checks.FOUR);
        c.eq("before any draw", x.undo(), -1);
        x.draw(9);
        c.eq("a refused one is none", x.undo(), -1);
        x.draw(0);
        x.undo();
        c.eq("behind the last one", x.undo(), -1);
        c.eq("and again", x.undo(), -1);
        c.fans(x, "1 2", "", "queen 3 1", "2 3");
        c.eq("turn", x.count(3), 0);
        c.eq("draws done", x.count(4), 0);
        c.eq("draws go on", x.draw(2), 101);
    }

    /** A pair goes back to the places it came from, whatever these were. */
    private static void asItWas() {
        c.about("promise 10: UNDONE: what was laid aside, what was put in, and 'last'");
        for (String own : new String[] {"1 2 3", "3 1 2", "2 3 1"}) {
            for (int place = 0; place < 5; place++) {
                for (int hold = 0; hold <= 3; hold++) {
                    SootQueen x = c.told("fan 0 " + own + ";fan 1 3 queen 2 4 1;fan 2 4;draws 0 last;draws 1 0;holds 0 " + hold + ";");
                    x.draw(place);
                    c.eq("undo()", x.undo(), 0);
                    c.fans(x, own, "3 queen 2 4 1", "4");
                    c.eq("'last' is 0 again", x.person(0, 1), 0);
                    c.eq("turn", x.count(3), 0);
                    c.eq("who has her", x.count(6), 1);
                }
            }
        }
        SootQueen two = c.told("people 2;pairs 3;fan 0 1 2 3;fan 1 queen 1 2 3;draws 0 last;draws 1 last;");
        two.draw(0);
        two.draw(3);
        two.draw(3);
        two.draw(1);
        c.fans(two, "1 3 queen", "1 3");
        c.eq("'last' of 0 is 3, of two cards", two.person(0, 1), 1);
        c.eq("'last' of 1 is 1", two.person(1, 1), 1);
        two.undo();
        c.eq("'last' of 1 is that of his draw before", two.person(1, 1), 3);
        two.undo();
        c.eq("'last' of 0 is that of his draw before", two.person(0, 1), 0);
        two.undo();
        c.eq("'last' of 1 is 0", two.person(1, 1), 0);
    }

    private static void atMost60() {
        c.about("promise 10: DRAWS (at most 60 are kept, the latest ones)");
        for (int draws : new int[] {59, 60, 61, 62, 119, 120, 121, 200}) {
            SootQueen x = c.told(Checks.EVER);
            x.play(draws);
            int kept = Math.min(draws, 60);
            for (int i = kept - 1; i >= 0; i--) {
                c.eq("undo() of " + draws, x.undo(), i);
            }
            c.eq("none any more of " + draws, x.undo(), -1);
            c.eq("draws done", x.count(4), draws - kept);
            c.eq("turn", x.count(3), (draws - kept) % 2);
            c.eq("who has her", x.count(6), (draws - kept) % 2 == 0 ? 1 : 0);
            x.draw(1);
            c.eq("what is drawn then can be", x.undo(), 0);
        }
        SootQueen x = c.told(Checks.EVER);
        x.play(70);
        for (int i = 0; i < 5; i++) {
            x.undo();
        }
        x.play(3);
        c.eq("55 and 3", x.count(5), 58);
        x.play(10);
        c.eq("60 again", x.count(5), 60);
        c.eq("undo()", x.undo(), 59);
        for (int draws : new int[] {60, 61, 119, 120, 121, 130, 180, 200}) {
            changing(draws);
        }
    }

    /** The queen lies and is drawn at other places every seven draws; undone it must be as when it went there. */
    private static void changing(int draws) {
        String text = "people 2;pairs 2;fan 0 1 2;fan 1 queen 1 2;draws 0 (turn-1)/7;draws 1 (turn-1)/7;"
            + "holds 0 turn/7;holds 1 turn/7;";
        SootQueen x = c.told(text);
        c.eq("play(" + draws + ")", x.play(draws), draws);
        for (int done = draws - 1; done >= draws - 60; done--) {
            x.undo();
            SootQueen fresh = c.told(text);
            fresh.play(done);
            c.fans(x, Checks.fan(fresh, 0), Checks.fan(fresh, 1));
            c.eq("turn", x.count(3), fresh.count(3));
            c.eq("the place by his rule", x.person(done % 2, 1), fresh.person(done % 2, 1));
        }
        c.eq("it goes on as before", x.play(60), 60);
    }

    private static void fromWhatIsOver() {
        c.about("promise 10: what was OVER isn't any more");
        SootQueen x = c.told(Checks.FOUR);
        x.play(200);
        c.eq("has lost", x.count(7), 2);
        c.eq("undo()", x.undo(), 4);
        c.eq("nobody has lost", x.count(7), -1);
        c.eq("turn", x.count(3), 2);
        c.fans(x, "3", "", "queen 3", "");
        SootQueen over = c.told("fan 1 queen;");
        c.eq("over from the first on", over.undo(), -1);
    }
}
