/** Promise 24, habit. */
public final class Promise24Test {
    private static final Checks c = new Checks();

    public static void main(String[] args) {
        none();
        places();
        likeOnes();
        withTheQueen();
        ofDrawsThatAreKept();
        wrongInputs();
        c.end("Promise24Test");
    }

    private static void habits(SootQueen x, int person, int... due) {
        for (int what = 0; what < due.length; what++) {
            c.eq("habit(" + person + ", " + what + ")", x.habit(person, what), due[what]);
        }
    }

    private static void none() {
        c.about("promise 24: the place of most of his (none without)");
        SootQueen x = c.told(Checks.FOUR + "habits 0 1 2 3 4 5 6;");
        x.draw(9);
        for (int person = 0; person < 4; person++) {
            habits(x, person, 0, 0, 0, 0, 0, 0, 0, -1, 0, 0);
        }
        x.draw(2);
        habits(x, 0, 0, 0, 1, 0, 0, 0, 0, 2, 0, 0);
        habits(x, 2, 0, 0, 0, 0, 0, 0, 0, -1, 1, 0);
        habits(x, 3, 0, 0, 0, 0, 0, 0, 0, -1, 0, 0);
    }

    private static void places() {
        c.about("promise 24: how often one drew at a place (0 to 5; 6 for all further ones)");
        for (int place = 0; place < 10; place++) {
            SootQueen x = c.told(Checks.FULL);
            x.draw(place);
            int seen = Math.min(place, 6);
            for (int what = 0; what <= 6; what++) {
                c.eq("drawn at " + place + ": habit(0, " + what + ")", x.habit(0, what), what == seen ? 1 : 0);
            }
            c.eq("drawn at " + place + ": habit(0, 7)", x.habit(0, 7), seen);
            c.eq("drawn at " + place + ": took her", x.habit(1, 9), place == 0 ? 1 : 0);
        }
        SootQueen further = c.told(Checks.FULL);
        for (int place : new int[] {9, 0, 6}) {
            c.yes("a pair", further.draw(place) > 100);
        }
        habits(further, 0, 0, 0, 0, 0, 0, 0, 2, 6, 0, 0);
        habits(further, 1, 1, 0, 0, 0, 0, 0, 0, 0, 2, 0);
    }

    private static void likeOnes() {
        c.about("promise 24: the place (0 to 6) of most of his (of like ones the first)");
        SootQueen x = c.told("people 2;pairs 9;fan 0 1 2 3 4 5 6 7 8 9;fan 1 1 2 3 4 5 6 7 8 9 queen;");
        int[] his = {7, 2, 2, 0, 0, 0};
        int[] most = {6, 2, 2, 2, 0, 0};
        for (int i = 0; i < 3; i++) {
            x.draw(his[i]);
            c.eq("his " + (i + 1), x.habit(0, 7), i == 0 ? 6 : 2);
            x.draw(0);
        }
        c.eq("twice at 2", x.habit(0, 2), 2);
        x.draw(1);
        c.eq("2 twice, 1 and 6 once", x.habit(0, 7), 2);
        x.draw(0);
        x.draw(1);
        c.eq("1 and 2 twice: the first", x.habit(0, 7), 1);
        c.eq("at 1", x.habit(0, 1), 2);
        SootQueen last = c.told(Checks.FULL);
        last.draw(6);
        last.draw(0);
        last.draw(5);
        c.eq("5 and 6 once: the first", last.habit(0, 7), 5);
        last.undo();
        c.eq("undone", last.habit(0, 7), 6);
    }

    private static void withTheQueen() {
        c.about("promise 24: how many DRAWS .. were done from one's FAN while she was in it (8), and how many of these took her (9)");
        SootQueen x = c.told(Checks.FOUR);
        x.play(200);
        int[] from = {0, 0, 2, 0};
        for (int person = 0; person < 4; person++) {
            c.eq("habit(" + person + ", 8)", x.habit(person, 8), from[person]);
            c.eq("habit(" + person + ", 9)", x.habit(person, 9), 0);
        }
        SootQueen some = c.told("people 2;pairs 2;fan 0 1 2;fan 1 queen 1 2;");
        some.draw(0);
        some.draw(0);
        some.draw(0);
        // From 1 she was taken once; then 1 drew a pair out of 0's fan with her.
        habits(some, 1, 1, 0, 0, 0, 0, 0, 0, 0, 1, 1);
        habits(some, 0, 2, 0, 0, 0, 0, 0, 0, 0, 1, 0);
        SootQueen ever = c.told(Checks.EVER);
        ever.play(7);
        habits(ever, 0, 0, 4, 0, 0, 0, 0, 0, 1, 3, 3);
        habits(ever, 1, 0, 3, 0, 0, 0, 0, 0, 1, 4, 4);
    }

    private static void ofDrawsThatAreKept() {
        c.about("promise 24: in DRAWS that are kept");
        SootQueen x = c.told(Checks.EVER);
        x.play(100);
        habits(x, 0, 0, 30, 0, 0, 0, 0, 0, 1, 30, 30);
        habits(x, 1, 0, 30, 0, 0, 0, 0, 0, 1, 30, 30);
        x.draw(1);
        x.draw(0);
        habits(x, 1, 1, 29, 0, 0, 0, 0, 0, 1, 30, 30);
        habits(x, 0, 0, 30, 0, 0, 0, 0, 0, 1, 30, 29);
        for (int i = 0; i < 60; i++) {
            x.undo();
        }
        habits(x, 0, 0, 0, 0, 0, 0, 0, 0, -1, 0, 0);
    }

    private static void wrongInputs() {
        c.about("promise 24: NoSuchElementException: also another what");
        SootQueen x = c.told(Checks.EVER);
        for (int what : new int[] {-1, -2, 10, 11, Checks.MIN, Checks.MAX}) {
            c.noSuch("habit(0, " + what + ")", () -> x.habit(0, what));
        }
        for (int who : new int[] {-1, 2, 6, Checks.MIN, Checks.MAX}) {
            for (int what = -1; what <= 10; what++) {
                int w = what;
                c.noSuch("habit(" + who + ", " + w + ")", () -> x.habit(who, w));
            }
        }
    }
}
