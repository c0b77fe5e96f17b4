/** Promise 26, image; what restore() brings back is in Promise27Test. */
public final class Promise26Test {
    private static final Checks c = new Checks();

    public static void main(String[] args) {
        c.about("promise 26: FANS, the TURN, DRAWS are kept as an image: nothing changes by that");
        SootQueen x = c.told(Checks.FOUR + "draws 0 last;");
        x.draw(1);
        x.draw(9);
        for (int i = 0; i < 2; i++) {
            c.fans(x, "1 2 3", "", "queen 1", "2 3");
            c.eq("turn", x.count(3), 2);
            c.eq("draws", x.count(4), 1);
            c.eq("kept", x.count(5), 1);
            c.eq("'last'", x.person(0, 1), 1);
            c.eq("STATUS 1", x.count(10), 1);
            x.image();
        }
        c.about("promise 26: in place of another one");
        x.draw(1);
        x.image();
        x.draw(1);
        c.yes("restore()", x.restore());
        c.eq("draws: as the latest image", x.count(4), 2);
        x.undo();
        x.undo();
        x.image();
        x.play(200);
        c.yes("restore()", x.restore());
        c.eq("draws: as the latest image", x.count(4), 0);
        c.fans(x, "1 2", "", "queen 3 1", "2 3");
        c.about("promise 26: an image of what is OVER");
        x.play(200);
        x.image();
        x.undo();
        c.eq("not over", x.count(3), 0);
        c.yes("restore()", x.restore());
        c.eq("over", x.count(7), 0);
        c.end("Promise26Test");
    }
}
