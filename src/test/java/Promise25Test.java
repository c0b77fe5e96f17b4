/** Promise 25, face. */
public final class Promise25Test {
    private static final Checks c = new Checks();

    public static void main(String[] args) {
        c.about("promise 25: how likely she is drawn, if she is higher (what 0, 1), and if another one is (2, 3); which is better (4)");
        int[][] due = {{2, 49, 49, 100, 51, 100, 1}, {2, 51, 51, 100, 49, 100, 0}, {6, 60, 3, 5, 2, 25, 0}, {4, 25, 1, 4, 1, 4, 0},
            {4, 24, 6, 25, 19, 75, 1}, {4, 26, 13, 50, 37, 150, 0}, {5, 19, 19, 100, 81, 400, 1}, {3, 34, 17, 50, 33, 100, 0},
            {3, 33, 33, 100, 67, 200, 1}, {6, 16, 4, 25, 21, 125, 1}, {6, 17, 17, 100, 83, 500, 0}};
        for (int[] d : due) {
            faced(d);
        }
        c.about("promise 25: so many times of 100 (0 to 100)");
        for (int size = 2; size <= 6; size++) {
            faced(size, 0, 0, 1, 1, size - 1, 1);
            faced(size, 100, 1, 1, 0, 1, 0);
        }
        c.about("promise 25: 0 if they are alike");
        faced(2, 50, 1, 2, 1, 2, 0);
        faced(4, 25, 1, 4, 1, 4, 0);
        faced(5, 20, 1, 5, 1, 5, 0);
        for (int size = 2; size <= 6; size++) {
            for (int high = 0; high <= 100; high++) {
                c.eq("face(" + size + ", " + high + ", 4)", new SootQueen().face(size, high, 4), size * high >= 100 ? 0 : 1);
            }
        }
        wrongInputs();
        c.end("Promise25Test");
    }

    /** Size, times of 100, then what is due by 0 to 4. */
    private static void faced(int... d) {
        SootQueen x = new SootQueen();
        for (int what = 0; what <= 4; what++) {
            c.eq("face(" + d[0] + ", " + d[1] + ", " + what + ")", x.face(d[0], d[1], what), d[2 + what]);
        }
    }

    private static void wrongInputs() {
        c.about("promise 25: NoSuchElementException: another what");
        SootQueen x = new SootQueen();
        for (int what : new int[] {-1, -2, 5, 6, Checks.MIN, Checks.MAX}) {
            c.noSuch("face(3, 50, " + what + ")", () -> x.face(3, 50, what));
            c.noSuch("face(1, 50, " + what + ")", () -> x.face(1, 50, what));
            c.noSuch("face(3, 101, " + what + ")", () -> x.face(3, 101, what));
        }
        c.about("promise 25: IllegalArgumentException (behind that): not 2 to 6 CARDS, 0 to 100 times");
        for (int what = 0; what <= 4; what++) {
            int w = what;
            for (int size : new int[] {1, 0, 7, -1, 8, Checks.MIN, Checks.MAX}) {
                c.illegal("face(" + size + ", 50, " + w + ")", () -> x.face(size, 50, w));
            }
            for (int high : new int[] {-1, -2, 101, 102, Checks.MIN, Checks.MAX}) {
                c.illegal("face(2, " + high + ", " + w + ")", () -> x.face(2, high, w));
            }
        }
    }
}
