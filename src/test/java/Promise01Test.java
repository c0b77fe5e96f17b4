/** Promise 1, a new object. */
public final class Promise01Test {
    private static final Checks c = new Checks();

    public static void main(String[] args) {
        c.about("promise 1: NONE = -1");
        c.eq("NONE", SootQueen.NONE, -1);
        asNew(new SootQueen());
        nothingOfAnotherOne();
        c.end("Promise01Test");
    }

    private static void asNew(SootQueen x) {
        c.about("promise 1: 3 PEOPLE, 5 PAIRS, SEED 0");
        int[] due = {3, 5, 0, 0, 0, 0, 1, -1, 0, 0, 0};
        for (int i = 0; i < due.length; i++) {
            c.eq("count(" + i + ")", x.count(i), due[i]);
        }
        c.fans(x, "2 4", "queen 1", "2 1 4");
        c.about("promise 1: nothing was told, nothing drawn, nothing kept");
        c.eq("fault()", x.fault(), -1);
        c.eq("undo()", x.undo(), -1);
        c.yes("no image", !x.restore());
        c.illegal("table(1): the tape is empty", () -> x.table(1));
        c.about("promise 1: HABITS, 0 without");
        for (int person = 0; person < 3; person++) {
            for (int what = 2; what <= 7; what++) {
                c.eq("person(" + person + ", " + what + ")", x.person(person, what), 0);
            }
        }
        c.about("promise 1: Without a RULE one draws by 'size/2', and holds by 'size'");
        c.eq("of two cards", x.person(0, 1), 1);
        c.eq("of three cards", x.person(1, 1), 1);
        x.draw(0);
        c.fans(x, "2 4 queen", "1", "2 1 4");
    }

    /** What one object was told and did is nothing to the next one. */
    private static void nothingOfAnotherOne() {
        SootQueen other = c.told(Checks.FOUR + "draws 0 0;holds 0 0;habits 0 1 2 3 4 5 6;");
        other.image();
        other.play(200);
        other.draw(0);
        Checks.table(other, "x");
        Checks.feed(other, "seed 1;");
        asNew(new SootQueen());
    }
}
