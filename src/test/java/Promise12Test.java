/** Promise 12, has: how long one has the queen, played by rules. */
public final class Promise12Test {
    private static final Checks c = new Checks();

    public static void main(String[] args) {
        behindHowMany();
        edges();
        c.about("promise 12: NoSuchElementException: no such PERSON");
        SootQueen x = c.told(Checks.FOUR);
        for (int who : new int[] {-1, -2, 4, 6, Checks.MIN, Checks.MAX}) {
            c.noSuch("has(" + who + ", true)", () -> x.has(who, true));
            c.noSuch("has(" + who + ", false)", () -> x.has(who, false));
        }
        c.end("Promise12Test");
    }

    private static void has(SootQueen x, int person, int all, int longest) {
        c.eq("has(" + person + ", false)", x.has(person, false), all);
        c.eq("has(" + person + ", true)", x.has(person, true), longest);
    }

    private static void behindHowMany() {
        c.about("promise 12: PLAYED: behind how many DRAWS one has the QUEEN (longest false), his longest stretch (true)");
        SootQueen x = c.told(Checks.FOUR);
        int[] all = {0, 0, 5, 0};
        for (int i = 0; i < 4; i++) {
            has(x, i, all[i], all[i]);
        }
        x.play(2);
        has(x, 2, 3, 3);
        SootQueen ever = c.told(Checks.EVER);
        has(ever, 0, 100, 1);
        has(ever, 1, 100, 1);
        ever.draw(1);
        has(ever, 0, 100, 1);
        c.about("promise 12: whoever had her before the first DRAW hadn't her behind one");
        // Over behind five: 0, 1, 0, 1 have her behind the first four, and 1 still behind the pair.
        SootQueen five = c.told(Checks.overBehind(5));
        has(five, 0, 2, 1);
        has(five, 1, 3, 2);
        // 0 pairs, 1 draws her, 0 pairs once more.
        SootQueen some = c.told("people 2;pairs 2;fan 0 1 2 queen;fan 1 1 2;draws 0 0;draws 1 size-1;");
        has(some, 0, 1, 1);
        has(some, 1, 2, 2);
        c.about("promise 12: of more stretches the longest, be it the first or a later one");
        String nine = "people 2;pairs 9;fan 0 1 2 3 4 5 6 7 8 9;fan 1 1 2 3 4 5 6 7 8 9 queen;";
        // 1 has her behind draws 1 and 2, 4 to 8; 0 behind 3, 9 to 12. All other draws are pairs.
        SootQueen later = c.told(nine + "draws 0 (turn=2 or turn=8)*(size-1);draws 1 (turn=3)*(size-1);");
        c.eq("ends(1)", later.ends(1), 12);
        has(later, 0, 5, 4);
        has(later, 1, 7, 5);
        // 1 has her behind draws 1 to 6, 8 to 11; 0 behind 7.
        SootQueen first = c.told(nine + "draws 0 (turn=6)*(size-1);draws 1 (turn=7)*(size-1);");
        has(first, 0, 1, 1);
        has(first, 1, 10, 6);
        first.play(3);
        has(first, 1, 7, 4);
    }

    private static void edges() {
        c.about("promise 12: 0 of no DRAWS");
        SootQueen over = c.told("fan 1 queen;");
        for (int i = 0; i < 3; i++) {
            has(over, i, 0, 0);
        }
        SootQueen played = c.told(Checks.FOUR);
        has(played, 2, 5, 5);
        played.play(200);
        has(played, 2, 0, 0);
        c.about("promise 12: 200 DRAWS at most");
        SootQueen all = c.told(Checks.overBehind(200));
        has(all, 0, 101, 2);
        has(all, 1, 99, 1);
        SootQueen more = c.told(Checks.overBehind(201));
        has(more, 0, 100, 1);
        has(more, 1, 100, 1);
    }
}
