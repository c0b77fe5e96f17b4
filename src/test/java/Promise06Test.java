/** Promise 6, fan. */
public final class Promise06Test {
    private static final Checks c = new Checks();

    public static void main(String[] args) {
        c.about("promise 6: How many CARDS a FAN has (place NONE), the CARD at a place");
        SootQueen x = c.told(Checks.FOUR);
        c.eq("fan(2, NONE)", x.fan(2, -1), 3);
        c.eq("fan(2, 0)", x.fan(2, 0), 0);
        c.eq("fan(2, 1)", x.fan(2, 1), 3);
        c.eq("fan(2, 2)", x.fan(2, 2), 1);
        c.eq("fan(3, 1)", x.fan(3, 1), 3);
        c.eq("an empty one", x.fan(1, -1), 0);
        SootQueen full = c.told(Checks.FULL);
        c.eq("a full one", full.fan(1, -1), 10);
        c.eq("its last place", full.fan(1, 9), 9);
        c.eq("its first", full.fan(1, 0), 0);
        c.about("promise 6: NoSuchElementException: no such place");
        for (int place : new int[] {3, 4, 9, 10, -2, -3, Checks.MIN, Checks.MAX}) {
            c.noSuch("fan(2, " + place + ")", () -> x.fan(2, place));
        }
        c.noSuch("fan(0, 2)", () -> x.fan(0, 2));
        c.noSuch("fan(1, 0): it is empty", () -> x.fan(1, 0));
        c.noSuch("fan(1, 10) of ten", () -> full.fan(1, 10));
        c.noSuch("fan(0, 9) of nine", () -> full.fan(0, 9));
        x.draw(1);
        c.noSuch("fan(2, 2), one drawn", () -> x.fan(2, 2));
        c.eq("fan(0, 2), one more", x.fan(0, 2), 3);
        c.about("promise 6: NoSuchElementException: no such PERSON (as everywhere)");
        for (int person : new int[] {-1, -2, 4, 5, 6, 7, Checks.MIN, Checks.MAX}) {
            c.noSuch("fan(" + person + ", NONE)", () -> x.fan(person, -1));
            c.noSuch("fan(" + person + ", 0)", () -> x.fan(person, 0));
        }
        c.noSuch("fan(2, NONE) of two people", () -> full.fan(2, -1));
        SootQueen six = c.told("people 6;fan 5 queen;");
        c.eq("fan(5, NONE) of six", six.fan(5, -1), 1);
        c.noSuch("fan(6, NONE) of six", () -> six.fan(6, -1));
        c.end("Promise06Test");
    }
}
