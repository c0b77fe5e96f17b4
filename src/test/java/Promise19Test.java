/** Promise 19, seats. Where it says so, what is due was worked out by a script apart from the class. */
public final class Promise19Test {
    private static final Checks c = new Checks();

    public static void main(String[] args) {
        orders();
        seatsNumber();
        fromNow();
        over();
        atMost200();
        firstSeatOut();
        dealt();
        wrongInputs();
        c.end("Promise19Test");
    }

    private static void seats(SootQueen x, int person, int loses, int none, int first) {
        c.eq("seats(" + person + ", 0)", x.seats(person, 0), loses);
        c.eq("seats(" + person + ", 1)", x.seats(person, 1), none);
        c.eq("seats(" + person + ", 2)", x.seats(person, 2), first);
    }

    /** People as figures to the base 6, the first seat's lowest. */
    private static int row(int... people) {
        int number = 0;
        for (int i = people.length - 1; i >= 0; i--) {
            number = number * 6 + people[i];
        }
        return number;
    }

    private static void orders() {
        c.about("promise 19: all orders of PEOPLE round the table (PERSON 0 first, the others in any order)");
        int[] due = {1, 2, 6, 24, 120};
        for (int people = 2; people <= 6; people++) {
            SootQueen x = c.told("people " + people + ";fan 1 queen;");
            seats(x, 1, due[people - 2], 0, -1);
            SootQueen ever = c.told("people " + people + ";pairs 1;fan 0 1;fan 1 1 queen;draws 0 1;draws 1 1;");
            seats(ever, 0, 0, due[people - 2], -1);
        }
    }

    private static void seatsNumber() {
        c.about("promise 19: FANS, RULES, HABITS go with them, 'me' is the seat's number");
        // 0 1 2: 0 pairs with 1, 2 has lost. 0 2 1: 0 draws her and has 1, queen; 1, who sits on seat 2,
        // draws at place 2 MOD 2, pairs, and 0 has lost.
        SootQueen me = c.told("pairs 1;fan 0 1;fan 1 1;fan 2 queen;draws 1 me;");
        seats(me, 0, 1, 0, row(0, 1, 2));
        seats(me, 1, 0, 0, row(0, 1, 2));
        seats(me, 2, 1, 0, row(0, 2, 1));
        // In 0 2 1 he draws her and holds her at place 0, where 1 draws her; then 0 pairs.
        SootQueen holds = c.told("pairs 1;fan 0 1;fan 1 1;fan 2 queen;draws 1 0;holds 0 0;draws 0 0;");
        seats(holds, 0, 0, 0, row(0, 1, 2));
        seats(holds, 1, 1, 0, row(0, 1, 2));
        seats(holds, 2, 1, 0, row(0, 2, 1));
        c.about("promise 19: what is now stays");
        c.fans(me, "1", "1", "queen");
        c.eq("turn", me.count(3), 0);
    }

    private static void fromNow() {
        c.about("promise 19: PLAYED by RULES from the FANS now, 'turn' and 'last' 0, the TURN of the first seat");
        SootQueen x = c.told("people 2;pairs 1;fan 0 1;fan 1 1 queen;draws 0 turn+last;draws 1 0;");
        x.draw(1);
        x.draw(1);
        c.eq("now he would draw her, at place 3 MOD 2", x.ends(0), 0);
        seats(x, 0, 0, 0, row(0, 1));
        seats(x, 1, 1, 0, -1);
        c.eq("what is now stays", x.count(4), 2);
        c.eq("'last' too", x.person(0, 1), 1);
        SootQueen z = c.told("people 2;pairs 2;fan 0 1 2;fan 1 1 2 queen;draws 0 1;");
        z.draw(0);
        c.eq("turn", z.count(3), 1);
        c.eq("1 pairs and has lost", z.ends(0), 1);
        seats(z, 1, 0, 1, -1);
        seats(z, 0, 0, 1, -1);
        c.about("promise 19: 'turn' and 'last' go on as it is played");
        SootQueen go = c.told("people 2;pairs 1;fan 0 1;fan 1 1 queen;draws 0 1;draws 1 turn-1;");
        seats(go, 0, 1, 0, -1);
        seats(go, 1, 0, 0, row(0, 1));
    }

    private static void over() {
        c.about("promise 19: the first order (as a row) in which he doesn't lose, and it is OVER");
        SootQueen x = c.told("people 6;fan 3 queen;");
        seats(x, 3, 120, 0, -1);
        seats(x, 0, 0, 0, row(0, 1, 2, 3, 4, 5));
        seats(x, 5, 0, 0, row(0, 1, 2, 3, 4, 5));
        SootQueen end = c.told(Checks.FOUR);
        end.play(200);
        seats(end, 2, 6, 0, -1);
        seats(end, 1, 0, 0, row(0, 1, 2, 3));
    }

    private static void atMost200() {
        c.about("promise 19: 200 DRAWS at most: none loses, if it isn't OVER then");
        seats(c.told(Checks.overBehind(199)), 1, 1, 0, -1);
        seats(c.told(Checks.overBehind(200)), 0, 1, 0, -1);
        seats(c.told(Checks.overBehind(200)), 1, 0, 0, row(0, 1));
        seats(c.told(Checks.overBehind(201)), 0, 0, 1, -1);
        seats(c.told(Checks.overBehind(201)), 1, 0, 1, -1);
    }

    private static void firstSeatOut() {
        c.about("promise 19: THE TURN is that of .., where he is OUT, of the next who isn't");
        // In 0 1 2 it is 1's turn: he pairs with 2, who has lost. In 0 2 1 it is 2's, who pairs with 1.
        SootQueen x = c.told("pairs 1;fan 1 1;fan 2 1 queen;draws 1 0;");
        seats(x, 2, 2, 0, -1);
        seats(x, 1, 0, 0, row(0, 1, 2));
        // In 0 1 2 he draws her at place 1, and 2, who has a 1, pairs: 1 has lost. In 0 2 1 2 pairs and has lost.
        SootQueen y = c.told("pairs 1;fan 1 1;fan 2 1 queen;draws 1 1;draws 2 0;");
        seats(y, 1, 1, 0, row(0, 2, 1));
        seats(y, 2, 1, 0, row(0, 1, 2));
        seats(y, 0, 0, 0, row(0, 1, 2));
    }

    private static void dealt() {
        c.about("promise 19: in how many one loses, in how many none does (by a script)");
        SootQueen four = c.told("people 4;pairs 6;seed 77;draws 0 last+1;draws 1 turn;draws 2 size-1;holds 1 0;holds 3 own/2;");
        seats(four, 0, 2, 0, row(0, 1, 2, 3));
        seats(four, 1, 2, 0, row(0, 1, 2, 3));
        seats(four, 2, 2, 0, row(0, 1, 3, 2));
        seats(four, 3, 0, 0, row(0, 1, 2, 3));
        SootQueen five = c.told("people 5;pairs 7;seed 1234;");
        int[] lose = {0, 7, 1, 4, 0};
        int[] first = {5910, 5910, 5910, 3570, 5910};
        for (int i = 0; i < 5; i++) {
            seats(five, i, lose[i], 12, first[i]);
        }
        SootQueen six = c.told("people 6;pairs 9;seed 9999;draws 1 me;draws 3 turn;holds 2 me;");
        int[] loseOfSix = {4, 18, 2, 0, 19, 11};
        int[] firstOfSix = {44790, 44790, 44790, 44790, 30750, 44790};
        for (int i = 0; i < 6; i++) {
            seats(six, i, loseOfSix[i], 66, firstOfSix[i]);
        }
    }

    private static void wrongInputs() {
        c.about("promise 19: NoSuchElementException: also another what");
        SootQueen x = c.told(Checks.EVER);
        for (int what : new int[] {-1, -2, 3, 4, Checks.MIN, Checks.MAX}) {
            c.noSuch("seats(0, " + what + ")", () -> x.seats(0, what));
        }
        for (int who : new int[] {-1, 2, 6, Checks.MIN, Checks.MAX}) {
            for (int what = 0; what <= 2; what++) {
                int w = what;
                c.noSuch("seats(" + who + ", " + w + ")", () -> x.seats(who, w));
            }
        }
    }
}
