/** Promise 14, two. */
public final class Promise14Test {
    /** Without her b(k) = (1 + k b(k - 2)) / (k + 2), b(0) = 0, b(1) = 1/3; with her a(k) = 1 - b(k - 1), a(0) = 1. */
    private static final long[][] WITHOUT = {{0, 1}, {1, 3}, {1, 4}, {2, 5}, {1, 3}, {3, 7}, {3, 8}, {4, 9}, {2, 5}, {5, 11},
        {5, 12}, {6, 13}, {3, 7}, {7, 15}};
    private static final Checks c = new Checks();

    public static void main(String[] args) {
        c.about("promise 14: how likely the one whose TURN it is loses: the upper part (what 0), the lower one (1)");
        SootQueen x = new SootQueen();
        for (int k = 0; k <= 13; k++) {
            long upper = k == 0 ? 1 : WITHOUT[k - 1][1] - WITHOUT[k - 1][0];
            long lower = k == 0 ? 1 : WITHOUT[k - 1][1];
            c.eq("two(" + k + ", false, 0)", x.two(k, false, 0), WITHOUT[k][0]);
            c.eq("two(" + k + ", false, 1)", x.two(k, false, 1), WITHOUT[k][1]);
            c.eq("two(" + k + ", true, 0)", x.two(k, true, 0), upper);
            c.eq("two(" + k + ", true, 1)", x.two(k, true, 1), lower);
        }
        c.about("promise 14: (k 0: 1 or 0)");
        c.eq("having her", x.two(0, true, 0), 1);
        c.eq("by", x.two(0, true, 1), 1);
        c.eq("not having her", x.two(0, false, 0), 0);
        c.eq("by", x.two(0, false, 1), 1);
        c.about("promise 14: it is nothing to the table");
        SootQueen over = c.told("fan 1 queen;");
        c.eq("two(13, false, 0)", over.two(13, false, 0), 7);
        c.eq("two(1, true, 0)", over.two(1, true, 0), 1);
        c.about("promise 14: NoSuchElementException: another what");
        for (int what : new int[] {-1, -2, 2, 3, Checks.MIN, Checks.MAX}) {
            c.noSuch("two(3, true, " + what + ")", () -> x.two(3, true, what));
            c.noSuch("two(0, false, " + what + ")", () -> x.two(0, false, what));
            c.noSuch("two(14, true, " + what + ")", () -> x.two(14, true, what));
            c.noSuch("two(-1, true, " + what + ")", () -> x.two(-1, true, what));
        }
        c.about("promise 14: IllegalArgumentException (behind that): k");
        for (int k : new int[] {-1, -2, 14, 15, Checks.MIN, Checks.MAX}) {
            c.illegal("two(" + k + ", false, 0)", () -> x.two(k, false, 0));
            c.illegal("two(" + k + ", true, 1)", () -> x.two(k, true, 1));
        }
        c.end("Promise14Test");
    }
}
