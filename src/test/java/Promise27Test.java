/** Promise 27, restore. */
public final class Promise27Test {
    private static final Checks c = new Checks();

    public static void main(String[] args) {
        none();
        asTheImage();
        theDrawsThatWereKept();
        whoDrewThen();
        whatStays();
        c.end("Promise27Test");
    }

    private static void none() {
        c.about("promise 27: False: there is none");
        SootQueen x = c.told(Checks.FOUR);
        c.yes("none yet", !x.restore());
        x.draw(1);
        c.yes("none still", !x.restore());
        c.eq("nothing changes", x.count(4), 1);
        c.fans(x, "1 2 3", "", "queen 1", "2 3");
        x.image();
        c.yes("one", x.restore());
        c.yes("a table without a fault", Checks.table(x, Checks.FOUR) == 0);
        c.yes("none any more", !x.restore());
    }

    private static void asTheImage() {
        c.about("promise 27: They are as the image again: true");
        SootQueen x = c.told(Checks.FOUR + "draws 0 last;draws 2 last;");
        x.draw(1);
        x.image();
        x.draw(1);
        x.draw(1);
        x.draw(0);
        for (int i = 0; i < 3; i++) {
            c.yes("restore()", x.restore());
            c.fans(x, "1 2 3", "", "queen 1", "2 3");
            c.eq("turn", x.count(3), 2);
            c.eq("draws", x.count(4), 1);
            c.eq("kept", x.count(5), 1);
            c.eq("who has her", x.count(6), 2);
            c.eq("'last' of 0", x.person(0, 1), 1);
            c.eq("'last' of 2", x.person(2, 1), 0);
            x.play(200);
        }
        c.about("promise 27: also when more was undone than was done since");
        x.restore();
        x.undo();
        c.eq("draws", x.count(4), 0);
        c.yes("restore()", x.restore());
        c.eq("draws", x.count(4), 1);
        c.eq("undo()", x.undo(), 0);
        c.fans(x, "1 2", "", "queen 3 1", "2 3");
        c.eq("'last' of 0", x.person(0, 1), 0);
    }

    /** Each of them: who drew, from whom, at which place, which card, what size, what was laid aside. */
    private static void theDrawsThatWereKept() {
        c.about("promise 27: DRAWS that were kept are those of the image");
        String text = "people 2;pairs 4;fan 0 1 2 3 4;fan 1 1 2 3 queen 4;";
        SootQueen x = c.told(text);
        int[] first = {3, 4, 0, 2};
        int[] second = {1, 0, 2, 0};
        for (int place : first) {
            c.yes("a draw", x.draw(place) >= 0);
        }
        String kept = told(x);
        x.image();
        for (int i = 0; i < 4; i++) {
            x.undo();
        }
        for (int place : second) {
            c.yes("another draw", x.draw(place) >= 0);
        }
        c.yes("other draws, other answers", !told(x).equals(kept));
        c.yes("restore()", x.restore());
        c.same("as the image", told(x), kept);
        for (int i = 3; i >= 0; i--) {
            c.eq("undo()", x.undo(), i);
        }
        c.fans(x, "1 2 3 4", "1 2 3 queen 4");
        c.about("promise 27: the 60 latest ones, as they were then");
        SootQueen ever = c.told(Checks.EVER);
        ever.play(75);
        ever.image();
        String sixty = told(ever);
        ever.play(50);
        ever.draw(0);
        c.yes("over", ever.count(3) == -1);
        c.yes("restore()", ever.restore());
        c.eq("done", ever.count(4), 75);
        c.eq("kept", ever.count(5), 60);
        c.same("as the image", told(ever), sixty);
        for (int i = 59; i >= 0; i--) {
            c.eq("undo()", ever.undo(), i);
            c.eq("turn", ever.count(3), (15 + i) % 2);
        }
        c.yes("restore()", ever.restore());
        c.eq("kept", ever.count(5), 60);
    }

    /** First 0 goes out by his draw, so that 0, 1, 2, 1 draw; then he doesn't, and 0, 1, 2, 0 do. */
    private static void whoDrewThen() {
        c.about("promise 27: DRAWS that were kept: who drew, from whom, and 'last' before that");
        SootQueen x = c.told("pairs 3;fan 0 1;fan 1 1 2 3;fan 2 2 3 queen;draws 1 last;");
        for (int place : new int[] {0, 2, 2, 1}) {
            c.yes("a draw", x.draw(place) >= 0);
        }
        c.fans(x, "", "2", "2 queen");
        String kept = told(x);
        x.image();
        for (int i = 3; i >= 0; i--) {
            c.eq("undo()", x.undo(), i);
        }
        for (int place : new int[] {1, 0, 0, 2}) {
            c.yes("another draw", x.draw(place) >= 0);
        }
        c.fans(x, "", "1 3", "3 queen 1");
        c.yes("restore()", x.restore());
        c.same("as the image", told(x), kept);
        c.eq("undo()", x.undo(), 3);
        c.eq("1 drew", x.count(3), 1);
        c.fans(x, "", "2 3", "2 3 queen");
        c.eq("'last' of 1 is that of his draw before", x.person(1, 1), 2);
        c.eq("undo()", x.undo(), 2);
        c.eq("2 drew from 1", x.count(3), 2);
        c.fans(x, "", "2 3 queen", "2 3");
        c.eq("undo()", x.undo(), 1);
        c.eq("'last' of 1 is 0", x.person(1, 1), 0);
        c.eq("undo()", x.undo(), 0);
        c.fans(x, "1", "1 2 3", "2 3 queen");
    }

    private static String told(SootQueen x) {
        StringBuilder all = new StringBuilder();
        for (int person = 0; person < x.count(0); person++) {
            for (int what = 0; what <= 9; what++) {
                all.append(x.habit(person, what)).append(' ');
            }
            for (int what = 0; what <= 3; what++) {
                all.append(x.peeped(person, what)).append(' ');
            }
            all.append(x.belief(person, -1)).append(' ').append(x.choose(person, 0)).append(' ').append(x.choose(person, 1));
            all.append(';');
        }
        return all.toString();
    }

    private static void whatStays() {
        c.about("promise 27: what is no part of the image stays as it is");
        SootQueen x = c.told(Checks.FOUR + "seed 5;draws 0 1;habits 0 1 2 3 4 5 6;");
        x.image();
        x.draw(9);
        Checks.table(x, "x");
        Checks.feed(x, "seed 6;");
        c.yes("a FAULT leaves the image", x.restore());
        c.eq("STATUS 0", x.count(9), 1);
        c.eq("STATUS 1", x.count(10), 1);
        c.eq("fault()", x.fault(), 0);
        c.eq("the tape", x.count(8), 20);
        c.eq("his rule", x.person(0, 1), 1);
        c.eq("his weight", x.person(0, 7), 6);
        c.eq("seed", x.count(2), 5);
        c.about("promise 27: BELIEF is by the beginning, as the TABLE came, also behind restore()");
        SootQueen believed = c.told("pairs 2;fan 0 1 2;fan 1 queen 1;fan 2 2;");
        believed.draw(0);
        believed.image();
        believed.undo();
        believed.draw(1);
        c.yes("restore()", believed.restore());
        c.eq("belief(2, NONE)", believed.belief(2, -1), 4);
        c.eq("belief(2, 0)", believed.belief(2, 0), 4);
    }
}
