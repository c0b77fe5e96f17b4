/** Promise 17, hold. */
public final class Promise17Test {
    private static final Checks c = new Checks();

    public static void main(String[] args) {
        c.about("promise 17: the place of the greatest weight (of like ones the first), of the weights of its first s places");
        held("6 3 6 0 99 99", new int[][] {{0, 1, 1}, {0, 2, 3}, {0, 2, 5}, {0, 2, 5}, {4, 33, 38}, {4, 33, 71}});
        held("0 6 3 6 0 99", new int[][] {{0, 0, 1}, {1, 1, 1}, {1, 2, 3}, {1, 2, 5}, {1, 2, 5}, {5, 33, 38}});
        held("1 2 3 4 5 6", new int[][] {{0, 1, 1}, {1, 2, 3}, {2, 1, 2}, {3, 2, 5}, {4, 1, 3}, {5, 2, 7}});
        held("6 5 4 3 2 1", new int[][] {{0, 1, 1}, {0, 6, 11}, {0, 2, 5}, {0, 1, 3}, {0, 3, 10}, {0, 2, 7}});
        held("7 7 7 7 7 7", new int[][] {{0, 1, 1}, {0, 1, 2}, {0, 1, 3}, {0, 1, 4}, {0, 1, 5}, {0, 1, 6}});
        held("99 99 99 99 99 98", new int[][] {{0, 1, 1}, {0, 1, 2}, {0, 1, 3}, {0, 1, 4}, {0, 1, 5}, {0, 99, 593}});
        c.about("promise 17: (0 by 1, if all these weights are 0)");
        held("0 0 0 0 0 0", new int[][] {{0, 0, 1}, {0, 0, 1}, {0, 0, 1}, {0, 0, 1}, {0, 0, 1}, {0, 0, 1}});
        held("0 0 0 1 0 0", new int[][] {{0, 0, 1}, {0, 0, 1}, {0, 0, 1}, {3, 1, 1}, {3, 1, 1}, {3, 1, 1}});
        SootQueen x = c.told("habits 0 0 6 3 6 0 99;");
        for (int size = 1; size <= 6; size++) {
            c.eq("without HABITS: hold(1, " + size + ", 0)", x.hold(1, size, 0), 0);
            c.eq("without HABITS: hold(2, " + size + ", 1)", x.hold(2, size, 1), 0);
            c.eq("without HABITS: hold(2, " + size + ", 2)", x.hold(2, size, 2), 1);
        }
        wrongInputs(x);
        SootQueen over = c.told("habits 0 0 6 3 6 0 99;fan 1 queen;");
        c.eq("over, and he is out", over.hold(0, 6, 0), 5);
        c.end("Promise17Test");
    }

    private static void held(String weights, int[][] due) {
        SootQueen x = c.told("people 6;habits 5 " + weights + ";habits 4 1 1 1 1 1 1;");
        for (int size = 1; size <= 6; size++) {
            for (int what = 0; what <= 2; what++) {
                c.eq("hold(5, " + size + ", " + what + ") by " + weights, x.hold(5, size, what), due[size - 1][what]);
            }
        }
    }

    private static void wrongInputs(SootQueen x) {
        c.about("promise 17: NoSuchElementException: also another what");
        for (int what : new int[] {-1, -2, 3, 4, Checks.MIN, Checks.MAX}) {
            c.noSuch("hold(0, 3, " + what + ")", () -> x.hold(0, 3, what));
            c.noSuch("hold(0, 7, " + what + ")", () -> x.hold(0, 7, what));
        }
        for (int who : new int[] {-1, 3, 6, Checks.MIN, Checks.MAX}) {
            c.noSuch("hold(" + who + ", 3, 0)", () -> x.hold(who, 3, 0));
            c.noSuch("hold(" + who + ", 0, 0)", () -> x.hold(who, 0, 0));
        }
        c.about("promise 17: IllegalArgumentException (behind that): not 1 to 6 CARDS");
        for (int size : new int[] {0, 7, -1, 8, Checks.MIN, Checks.MAX}) {
            for (int what = 0; what <= 2; what++) {
                int w = what;
                c.illegal("hold(0, " + size + ", " + w + ")", () -> x.hold(0, size, w));
                c.illegal("hold(1, " + size + ", " + w + ")", () -> x.hold(1, size, w));
            }
        }
    }
}
