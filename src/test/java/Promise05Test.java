/** Promise 5, count. */
public final class Promise05Test {
    private static final Checks c = new Checks();

    public static void main(String[] args) {
        told();
        turn();
        draws();
        queenAndLoser();
        tapeAndStatus();
        c.about("promise 5: NoSuchElementException: another what");
        SootQueen x = new SootQueen();
        for (int what : new int[] {-1, -2, 11, 12, Checks.MIN, Checks.MAX}) {
            c.noSuch("count(" + what + ")", () -> x.count(what));
        }
        c.end("Promise05Test");
    }

    private static void told() {
        c.about("promise 5: 0 PEOPLE, 1 PAIRS, 2 SEED");
        SootQueen x = c.told("people 6;pairs 9;seed 9999;");
        c.eq("count(0)", x.count(0), 6);
        c.eq("count(1)", x.count(1), 9);
        c.eq("count(2)", x.count(2), 9999);
        x.play(200);
        x.evenings(5, 60, 3, true, 0);
        c.eq("count(0) then", x.count(0), 6);
        c.eq("count(2) is as told, whatever was dealt by other seeds", x.count(2), 9999);
        SootQueen fans = c.told("seed 12;fan 0 queen;");
        c.eq("SEED, though FANS were told", fans.count(2), 12);
        c.eq("PAIRS, though none lies there", fans.count(1), 5);
    }

    private static void turn() {
        c.about("promise 5: 3 whose TURN it is (NONE: it is OVER)");
        SootQueen x = c.told(Checks.FOUR);
        int[] due = {0, 2, 3, 0, 2, -1};
        for (int i = 0; i < due.length; i++) {
            c.eq("behind " + i + " draws", x.count(3), due[i]);
            x.play(1);
        }
        x.undo();
        c.eq("not over any more", x.count(3), 2);
        c.eq("over from the first on", c.told("fan 1 queen;").count(3), -1);
        c.eq("two with cards", c.told("fan 1 2;fan 2 queen 2;").count(3), 1);
    }

    private static void draws() {
        c.about("promise 5: 4 DRAWS done, 5 DRAWS that can be UNDONE");
        SootQueen x = c.told(Checks.EVER);
        int done = 0;
        for (int n : new int[] {0, 1, 58, 1, 1, 1, 1, 200}) {
            x.play(n);
            done += n;
            c.eq("done", x.count(4), done);
            c.eq("can be undone: at most 60 are kept", x.count(5), Math.min(done, 60));
        }
        x.undo();
        c.eq("done, one undone", x.count(4), done - 1);
        c.eq("can be undone", x.count(5), 59);
        x.draw(9);
        c.eq("a refused one isn't done", x.count(4), done - 1);
        x.draw(1);
        c.eq("can be undone", x.count(5), 60);
    }

    private static void queenAndLoser() {
        c.about("promise 5: 6 who has the QUEEN, 7 who has lost (NONE)");
        SootQueen x = c.told(Checks.EVER);
        c.eq("has her", x.count(6), 1);
        x.draw(1);
        c.eq("has her", x.count(6), 0);
        c.eq("nobody has lost", x.count(7), -1);
        x.draw(0);
        c.eq("has her", x.count(6), 0);
        c.eq("has lost", x.count(7), 0);
        x.undo();
        c.eq("nobody has lost any more", x.count(7), -1);
        SootQueen four = c.told(Checks.FOUR);
        c.eq("has her", four.count(6), 2);
        four.play(200);
        c.eq("has lost", four.count(7), 2);
        c.eq("the last of six", c.told("people 6;fan 5 queen;").count(7), 5);
    }

    private static void tapeAndStatus() {
        c.about("promise 5: 8 bytes of the tape, 9 and 10 STATUS 0 and 1");
        SootQueen x = new SootQueen();
        for (int i = 1; i <= 3; i++) {
            Checks.feed(x, "x");
            c.eq("bytes", x.count(8), 20 * i);
        }
        x.table(2);
        c.eq("bytes", x.count(8), 0);
        c.eq("STATUS 0", x.count(9), 1);
        c.about("promise 5: STATUS: how many calls were refused: 0 of TEXTS with a FAULT");
        for (int i = 2; i <= 8; i++) {
            Checks.table(x, i % 2 == 0 ? "people 1;" : "fan 0;");
            c.eq("STATUS 0", x.count(9), i);
            c.eq("STATUS 1", x.count(10), 0);
        }
        Checks.table(x, "people 2;pairs 1;");
        c.illegal("table(1)", () -> x.table(1));
        c.eq("one without a FAULT isn't counted, nor one that threw", x.count(9), 8);
        c.about("promise 5: STATUS: 1 of DRAWS");
        for (int i = 1; i <= 3; i++) {
            c.eq("over", x.draw(0), -1);
            c.eq("STATUS 1", x.count(10), i);
        }
        x.play(200);
        x.undo();
        x.restore();
        c.noSuch("wouldLose(0)", () -> x.wouldLose(0));
        c.eq("no other calls are counted", x.count(10), 3);
        c.eq("nor here", x.count(9), 8);
    }
}
