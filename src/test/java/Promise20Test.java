/** Promise 20, evenings. Where it says so, what is due was worked out by a script apart from the class. */
public final class Promise20Test {
    private static final Checks c = new Checks();

    public static void main(String[] args) {
        onePair();
        howMany();
        asDealt();
        seedsThatWrap();
        byLaws();
        shown();
        aDrawAllTheSame();
        ahead();
        atMost200();
        whatIsNowStays();
        lawsOfEveningsAlone();
        wrongInputs();
        c.end("Promise20Test");
    }

    /** One row: how many aren't over, the longest, by how much more often, then how often each loses. */
    private static void evenings(SootQueen x, int seed, int many, int laws, boolean luck, int... due) {
        String call = "evenings(" + seed + ", " + many + ", " + laws + ", " + luck + ", ";
        for (int i = 0; i < due.length; i++) {
            int who = i < 3 ? -1 - i : i - 3;
            c.eq(call + who + ")", x.evenings(seed, many, laws, luck, who), due[i]);
        }
    }

    private static void onePair() {
        c.about("promise 20: PLAYED by RULES of the TABLE as dealt by SEEDS s, s and 1, .. (whatever 'fan' was told)");
        // With one pair and two people 0 loses by a draw if he was dealt her, else it is over at once. The 43 by a script.
        SootQueen x = c.told("people 2;pairs 1;fan 0 queen;");
        for (int laws = 0; laws <= 3; laws++) {
            evenings(x, 0, 60, laws, false, 0, 1, 26, 43, 17);
            evenings(x, 0, 60, laws, true, 0, 1, 26, 43, 17);
        }
    }

    private static void howMany() {
        c.about("promise 20: (so many, 0 to 60); the most DRAWS of one of them (0 without)");
        SootQueen x = c.told("people 2;pairs 1;");
        for (int laws = 0; laws <= 3; laws++) {
            evenings(x, 0, 0, laws, false, 0, 0, 0, 0, 0);
            evenings(x, 0, 0, laws, true, 0, 0, 0, 0, 0);
        }
        // By seed 0 it is over at once, by seed 1 he has her.
        evenings(x, 0, 1, 0, false, 0, 0, 1, 0, 1);
        evenings(x, 1, 1, 0, false, 0, 1, 1, 1, 0);
        evenings(x, 0, 2, 0, false, 0, 1, 0, 1, 1);
        SootQueen six = c.told("people 6;pairs 9;seed 4;");
        for (int many : new int[] {0, 1, 59, 60}) {
            int sum = six.evenings(7, many, 0, false, -1);
            for (int who = 0; who < 6; who++) {
                sum += six.evenings(7, many, 0, false, who);
            }
            c.eq("all of " + many, sum, many);
        }
    }

    private static void asDealt() {
        c.about("promise 20: how often each loses; how many aren't OVER; the most DRAWS; by how much (by a script)");
        SootQueen x = new SootQueen();
        evenings(x, 0, 60, 0, false, 23, 200, 10, 13, 17, 7);
        c.about("promise 20: LUCK: all these BLIND instead (each place by a DRAW of the FAN's size, the seed as it was then)");
        evenings(x, 0, 60, 0, true, 0, 16, 27, 31, 25, 4);
        SootQueen two = c.told("people 2;pairs 2;");
        evenings(two, 0, 60, 0, false, 36, 200, 14, 19, 5);
        evenings(two, 0, 60, 0, true, 0, 8, 10, 35, 25);
        SootQueen six = c.told("people 6;pairs 9;");
        evenings(six, -30, 60, 0, false, 28, 200, 13, 14, 4, 5, 1, 5, 3);
        evenings(six, -30, 60, 0, true, 0, 70, 13, 14, 7, 15, 10, 12, 2);
        c.about("promise 20: by RULES, held by RULES");
        SootQueen rules = c.told("people 4;pairs 6;draws 0 last+1;draws 1 turn;draws 2 size-1;holds 1 0;holds 3 own/2;");
        evenings(rules, 77, 60, 0, false, 1, 200, 14, 13, 14, 23, 9);
        evenings(rules, 77, 60, 0, true, 0, 26, 16, 25, 9, 11, 15);
    }

    private static void seedsThatWrap() {
        c.about("promise 20: SEEDS s, s and 1, ..: ints, below 0 and wrapping too (by a script)");
        SootQueen x = new SootQueen();
        int[] sum = new int[3];
        for (int seed : new int[] {Checks.MAX - 1, Checks.MAX, Checks.MIN, Checks.MIN + 1}) {
            for (int who = 0; who < 3; who++) {
                sum[who] += x.evenings(seed, 1, 0, true, who);
            }
        }
        for (int who = 0; who < 3; who++) {
            c.eq("from MAX less 1", x.evenings(Checks.MAX - 1, 4, 0, true, who), sum[who]);
        }
        evenings(x, Checks.MAX - 1, 4, 0, true, 0, 12, 3, 3, 1, 0);
        evenings(x, -3, 6, 0, true, 0, 12, 2, 3, 2, 1);
        evenings(x, Checks.MIN, 2, 0, true, 0, 7, 2, 2, 0, 0);
        SootQueen told = c.told("seed 9999;");
        evenings(told, -3, 6, 0, true, 0, 12, 2, 3, 2, 1);
    }

    private static void byLaws() {
        c.about("promise 20: LAWS (bits): 1, 2 and both (by a script)");
        SootQueen x = new SootQueen();
        evenings(x, 0, 60, 1, false, 3, 200, 10, 21, 23, 13);
        evenings(x, 0, 60, 1, true, 0, 16, 18, 24, 27, 9);
        evenings(x, 0, 60, 2, false, 4, 200, 4, 20, 20, 16);
        evenings(x, 0, 60, 2, true, 0, 14, 4, 22, 20, 18);
        evenings(x, 0, 60, 3, false, 3, 200, 5, 22, 18, 17);
        evenings(x, 0, 60, 3, true, 0, 15, 4, 22, 20, 18);
        SootQueen rules = c.told("people 4;pairs 6;draws 0 last+1;draws 1 turn;draws 2 size-1;holds 1 0;holds 3 own/2;");
        evenings(rules, 77, 60, 1, false, 0, 31, 28, 3, 31, 23, 3);
        evenings(rules, 77, 60, 1, true, 0, 29, 11, 14, 13, 22, 11);
        evenings(rules, 77, 60, 2, false, 0, 24, 9, 21, 13, 12, 14);
        evenings(rules, 77, 60, 3, true, 0, 30, 9, 21, 13, 12, 14);
        SootQueen six = c.told("people 6;pairs 9;draws 1 me;draws 3 turn;holds 2 me;");
        evenings(six, -30, 60, 0, false, 11, 200, 13, 16, 8, 5, 3, 7, 10);
        evenings(six, -30, 60, 1, false, 28, 200, 13, 4, 4, 15, 2, 5, 2);
        evenings(six, -30, 60, 2, false, 13, 200, 9, 14, 5, 8, 5, 10, 5);
        evenings(six, -30, 60, 3, true, 0, 60, 9, 14, 7, 11, 5, 14, 9);
    }

    /** If the queen stays where she was, who was dealt her loses, if anybody does. */
    private static void shown() {
        c.about("promise 20: LAW 2: what is drawn is shown, and stays where it was if it is the QUEEN (a DRAW all the same)");
        SootQueen dealt = new SootQueen();
        SootQueen x = c.told("people 4;pairs 6;");
        int lost = 0;
        for (int seed = 0; seed < 60; seed++) {
            Checks.table(dealt, "people 4;pairs 6;seed " + seed + ";");
            int over = 1 - x.evenings(seed, 1, 2, true, -1);
            c.eq("seed " + seed, x.evenings(seed, 1, 2, true, dealt.count(6)), over);
            lost += over;
        }
        c.yes("most are over", lost > 50);
        c.eq("all of them", x.evenings(0, 60, 2, true, -1), 60 - lost);
        SootQueen first = c.told("people 3;pairs 1;draws 0 0;draws 1 0;draws 2 0;");
        for (int seed = 0; seed < 20; seed++) {
            Checks.table(dealt, "people 3;pairs 1;seed " + seed + ";");
            // her 0: 0 draws 1's value and holds it behind her, 1 is out; 2 draws her, she stays; 0 pairs.
            // her 1: 0 draws her, she stays; 1 draws 2's value, 2 is out; 0 draws her, she stays; 1 pairs.
            // her 2: 0 and 1 pair at once.
            int her = dealt.count(6);
            int[] longest = {3, 4, 1};
            c.eq("longest, seed " + seed, first.evenings(seed, 1, 2, false, -2), longest[her]);
            c.eq("loses, seed " + seed, first.evenings(seed, 1, 2, false, her), 1);
        }
    }

    /**
     * By seed 7 there are 1 2, 1 queen and 2: 0 draws her at place 1, 1 draws the 2, so that 2 is out and 1 has
     * 1 queen 2; at place 2 then 0 pairs, 1 pairs too, and has lost behind four draws.
     */
    private static void aDrawAllTheSame() {
        c.about("promise 20: LAW 2: (a DRAW all the same): 'last' and 'turn' are by it too");
        SootQueen dealt = c.told("people 3;pairs 2;seed 7;");
        c.fans(dealt, "1 2", "1 queen", "2");
        for (String rule : new String[] {"1+last", "1+turn/2", "1+(turn=2)"}) {
            SootQueen x = c.told("people 3;pairs 2;draws 0 " + rule + ";");
            evenings(x, 7, 1, 2, false, 0, 4, 1, 0, 1, 0);
        }
    }

    /** Three people with a card each, all of whom draw at place 0. */
    private static void ahead() {
        c.about("promise 20: LAW 1: one draws from the one ahead of him round the table who isn't OUT (the TURN goes on as ever)");
        SootQueen x = c.told("people 3;pairs 1;draws 0 0;draws 1 0;draws 2 0;");
        SootQueen dealt = new SootQueen();
        int[] dealtHer = new int[3];
        for (int seed = 0; seed < 60; seed++) {
            Checks.table(dealt, "people 3;pairs 1;seed " + seed + ";");
            int her = dealt.count(6);
            dealtHer[her]++;
            // her 0: he draws 1's card and has queen, value; 2 draws her and has value, queen; 0 pairs with
            // that. her 1: 0 draws her and has value, queen; 2 pairs with that. her 2: 0 and 1 pair.
            int[] lost = {2, 0, 2};
            c.eq("law 0, seed " + seed, x.evenings(seed, 1, 0, false, lost[her]), 1);
            // her 0: he draws 2's card and has queen, value; 1 draws her and has value, queen; 0 pairs with
            // that. her 1: 0 and 2 pair. her 2: 0 draws her and has value, queen; 1 pairs with that.
            int[] lostAhead = {1, 1, 0};
            c.eq("law 1, seed " + seed, x.evenings(seed, 1, 1, false, lostAhead[her]), 1);
        }
        c.yes("all of them were dealt her", dealtHer[0] > 0 && dealtHer[1] > 0 && dealtHer[2] > 0);
        c.eq("law 0: 0 loses", x.evenings(0, 60, 0, false, 0), dealtHer[1]);
        c.eq("law 0: 1 never does", x.evenings(0, 60, 0, false, 1), 0);
        c.eq("law 0: most by least", x.evenings(0, 60, 0, false, -3), dealtHer[0] + dealtHer[2]);
        c.eq("law 1: 2 never does", x.evenings(0, 60, 1, false, 2), 0);
        c.eq("law 0: longest", x.evenings(0, 60, 0, false, -2), 3);
    }

    private static void atMost200() {
        c.about("promise 20: 200 DRAWS at most (by a script: by seed 0 she goes to and fro as long as they draw at place 1)");
        int[][] due = {{198, 0, 199, 1, 0, 1}, {199, 0, 200, 1, 1, 0}, {200, 1, 200, 0, 0, 0}, {201, 1, 200, 0, 0, 0}};
        for (int[] d : due) {
            SootQueen x = c.told("people 2;pairs 2;draws 0 turn<" + d[0] + ";draws 1 turn<" + d[0] + ";");
            evenings(x, 0, 1, 0, false, d[1], d[2], d[3], d[4], d[5]);
        }
    }

    private static void whatIsNowStays() {
        c.about("promise 20: PLAYED: what is now stays");
        SootQueen x = c.told(Checks.FOUR + "draws 0 last;");
        x.draw(1);
        x.image();
        x.draw(1);
        x.evenings(5, 60, 0, false, -1);
        x.evenings(5, 60, 3, true, 0);
        c.fans(x, "1 2 3", "", "queen 1 3", "2");
        c.eq("turn", x.count(3), 3);
        c.eq("draws", x.count(4), 2);
        c.eq("'last'", x.person(0, 1), 1);
        c.eq("ends(0) by no LAWS, without LUCK", x.ends(0), 2);
        c.yes("the image", x.restore());
        c.eq("draws", x.count(4), 1);
        c.eq("undo()", x.undo(), 0);
    }

    /** Whatever laws and luck there were in the evenings, these are played on without. */
    private static void lawsOfEveningsAlone() {
        c.about("promise 20: LAWS (bits; of EVENINGS alone)");
        String text = "people 4;pairs 6;draws 0 last+1;draws 1 turn;draws 2 size-1;holds 1 0;holds 3 own/2;";
        for (int seed = 0; seed < 10; seed++) {
            SootQueen x = c.told(text + "seed " + seed + ";");
            SootQueen fresh = c.told(text + "seed " + seed + ";");
            int loser = fresh.ends(0);
            int draws = fresh.ends(1);
            for (int laws = 0; laws <= 3; laws++) {
                x.evenings(seed, 1, laws, true, 0);
                c.eq("ends(1)", x.ends(1), draws);
                x.evenings(seed, 1, laws, true, 0);
                c.eq("ends(0)", x.ends(0), loser);
                x.evenings(seed, 1, laws, true, 0);
                c.eq("wouldLose by his rule", x.wouldLose(x.person(x.count(3), 1)), loser);
                x.evenings(seed, 1, laws, false, 0);
                c.eq("ends(1)", x.ends(1), draws);
                x.evenings(seed, 1, laws, false, 0);
                c.eq("seats(0, 0)", x.seats(0, 0), fresh.seats(0, 0));
            }
        }
    }

    private static void wrongInputs() {
        c.about("promise 20: NoSuchElementException: no such who");
        SootQueen x = c.told(Checks.EVER);
        for (int who : new int[] {-4, -5, 2, 3, 6, Checks.MIN, Checks.MAX}) {
            c.noSuch("evenings(0, 1, 0, false, " + who + ")", () -> x.evenings(0, 1, 0, false, who));
            c.noSuch("evenings(0, 61, 0, false, " + who + ")", () -> x.evenings(0, 61, 0, false, who));
            c.noSuch("evenings(0, 1, 4, true, " + who + ")", () -> x.evenings(0, 1, 4, true, who));
        }
        c.about("promise 20: IllegalArgumentException (behind that): how many, LAWS");
        for (int who = -3; who <= 1; who++) {
            int w = who;
            for (int many : new int[] {-1, -2, 61, 62, Checks.MIN, Checks.MAX}) {
                c.illegal("evenings(0, " + many + ", 0, true, " + w + ")", () -> x.evenings(0, many, 0, true, w));
            }
            for (int laws : new int[] {-1, -2, 4, 5, 8, Checks.MIN, Checks.MAX}) {
                c.illegal("evenings(0, 1, " + laws + ", true, " + w + ")", () -> x.evenings(0, 1, laws, true, w));
                c.illegal("evenings(0, 0, " + laws + ", true, " + w + ")", () -> x.evenings(0, 0, laws, true, w));
            }
        }
    }
}
