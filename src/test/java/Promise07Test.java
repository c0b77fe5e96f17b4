/** Promise 7, person: from whom, where by his rule, his habits; and what the rules' expressions give. */
public final class Promise07Test {
    private static final Checks c = new Checks();

    public static void main(String[] args) {
        fromWhom();
        noneOfOutAndOver();
        habits();
        another();
        sumsAndProducts();
        tests();
        wraps();
        values();
        modSize();
        withoutARule();
        c.end("Promise07Test");
    }

    private static void fromWhom() {
        c.about("promise 7: From whom one draws now (what 0): the first behind him, round the table, who isn't OUT");
        SootQueen all = c.told("people 6;pairs 9;fan 0 1;fan 1 1;fan 2 2;fan 3 2;fan 4 3;fan 5 3 queen;");
        for (int i = 0; i < 6; i++) {
            c.eq("person(" + i + ", 0)", all.person(i, 0), (i + 1) % 6);
        }
        SootQueen four = c.told(Checks.FOUR);
        int[] due = {2, -1, 3, 0};
        for (int i = 0; i < 4; i++) {
            c.eq("1 is out: person(" + i + ", 0)", four.person(i, 0), due[i]);
        }
        SootQueen two = c.told("people 6;fan 2 1;fan 4 1 queen;");
        int[] dueOfTwo = {-1, -1, 4, -1, 2, -1};
        for (int i = 0; i < 6; i++) {
            c.eq("2 and 4 are left: person(" + i + ", 0)", two.person(i, 0), dueOfTwo[i]);
        }
        four.play(3);
        c.eq("now: 3 has gone out, so 2 draws from 0", four.person(2, 0), 0);
    }

    private static void noneOfOutAndOver() {
        c.about("promise 7: NONE of 0 and 1: he is OUT, or it is OVER");
        SootQueen x = c.told(Checks.FOUR + "habits 1 1 2 3 4 5 6;habits 2 6 5 4 3 2 1;");
        c.eq("out: 0", x.person(1, 0), -1);
        c.eq("out: 1", x.person(1, 1), -1);
        c.eq("out, his habits", x.person(1, 7), 6);
        x.play(200);
        for (int i = 0; i < 4; i++) {
            c.eq("over: person(" + i + ", 0)", x.person(i, 0), -1);
            c.eq("over: person(" + i + ", 1)", x.person(i, 1), -1);
        }
        c.eq("over, his habits", x.person(2, 2), 6);
        c.eq("over, his habits", x.person(1, 2), 1);
        x.undo();
        c.eq("not over any more", x.person(2, 0), 0);
    }

    private static void habits() {
        c.about("promise 7: one of his HABITS (2 to 7)");
        SootQueen x = c.told("people 6;habits 0 1 2 3 4 5 6;habits 5 94 95 96 97 98 99;habits 2 0 0 7 0 0 0;");
        for (int i = 0; i < 6; i++) {
            c.eq("of 0", x.person(0, 2 + i), i + 1);
            c.eq("of 5", x.person(5, 2 + i), 94 + i);
            c.eq("of 2", x.person(2, 2 + i), i == 2 ? 7 : 0);
            c.eq("of 3, untold", x.person(3, 2 + i), 0);
        }
    }

    private static void another() {
        c.about("promise 7: NoSuchElementException: also another what");
        SootQueen x = c.told(Checks.FOUR);
        for (int what : new int[] {-1, -2, 8, 9, Checks.MIN, Checks.MAX}) {
            c.noSuch("person(0, " + what + ")", () -> x.person(0, what));
            c.noSuch("out: person(1, " + what + ")", () -> x.person(1, what));
        }
        for (int who : new int[] {-1, 4, 6, Checks.MIN, Checks.MAX}) {
            for (int what = -1; what <= 8; what++) {
                int w = what;
                c.noSuch("person(" + who + ", " + w + ")", () -> x.person(who, w));
            }
        }
        x.play(200);
        c.noSuch("over: person(0, 8)", () -> x.person(0, 8));
    }

    /** What a rule gives MOD ten: person 0 draws from ten cards and has nine. */
    private static void gives(String expr, int due) {
        c.eq("'" + expr + "' of ten", c.told(Checks.FULL + "draws 0 " + expr + ";").person(0, 1), due);
    }

    private static void sumsAndProducts() {
        c.about("promise 7: SUM, PRODUCT, PART, from the left");
        gives("7", 7);
        gives("0", 0);
        gives("0009", 9);
        gives("1+2*3", 7);
        gives("2*3+1", 7);
        gives("(1+2)*3", 9);
        gives("9-3-2", 4);
        gives("9-(3-2)", 8);
        gives("9-3+2", 8);
        gives("1+1+1+1+1+1+1+1", 8);
        gives("7/2*2", 6);
        gives("2*7/3", 4);
        gives("16/4/2", 2);
        gives("16/(4/2)", 8);
        gives("2*2*2", 8);
        gives("9-2*3", 3);
        gives("1+8/4", 3);
        gives("((((5))))", 5);
        c.about("promise 7: / cut down to 0, by 0 gives 0");
        gives("7/2", 3);
        gives("0-7/2", 7);
        gives("(0-7)/2", 7);
        gives("7/(0-2)", 7);
        gives("(0-7)/(0-2)", 3);
        gives("(0-1)/2+5", 5);
        gives("5/0", 0);
        gives("0/0", 0);
        gives("8/0+3", 3);
        gives("(0-5)/(2-2)+4", 4);
        gives("1/0/0", 0);
        gives("turn/turn+6", 6);
    }

    private static void tests() {
        c.about("promise 7: tests, not, and, or are 1 or 0 (what isn't 0 holds)");
        int[][] sides = {{1, 2}, {2, 2}, {2, 1}, {0, 0}};
        for (int[] s : sides) {
            gives(s[0] + "<" + s[1], s[0] < s[1] ? 1 : 0);
            gives(s[0] + "=" + s[1], s[0] == s[1] ? 1 : 0);
            gives("5+(" + s[0] + "<" + s[1] + ")", s[0] < s[1] ? 6 : 5);
        }
        gives("0-1<0", 1);
        gives("0<0-1", 0);
        gives("0-9999<9999", 1);
        gives("not 0", 1);
        gives("not 1", 0);
        gives("not 5", 0);
        gives("not (0-1)", 0);
        gives("not not 0", 0);
        gives("not not 5", 1);
        gives("not not not 5", 0);
        gives("not not not not not not 5", 1);
        int[] some = {0, 1, 7};
        for (int a : some) {
            for (int b : some) {
                gives(a + " and " + b, a != 0 && b != 0 ? 1 : 0);
                gives(a + " or " + b, a != 0 || b != 0 ? 1 : 0);
            }
        }
        gives("7 and 0-1", 1);
        gives("0-1 or 0", 1);
        gives("1 and 2 and 3", 1);
        gives("1 and 2 and 0", 0);
        gives("0 or 0 or 0", 0);
        gives("0 or 0 or 4", 1);
        c.about("promise 7: 'or' of 'and' of 'not' of tests of SUMS");
        gives("1 or 0 and 0", 1);
        gives("(1 or 0) and 0", 0);
        gives("0 and 0 or 1", 1);
        gives("0 and (0 or 1)", 0);
        gives("not 1 or 1", 1);
        gives("not (1 or 1)", 0);
        gives("not 0 and 0", 0);
        gives("not (0 and 0)", 1);
        gives("1 and not 0", 1);
        gives("0 or not 0", 1);
        gives("not 0=0", 0);
        gives("(not 0)=0", 0);
        gives("not 5=0", 1);
        gives("not 0+5", 0);
        gives("(not 0)+5", 6);
        gives("not 1<2", 0);
        gives("not 2<1 and 3", 1);
        gives("1+1<3", 1);
        gives("3<1+1", 0);
        gives("1+1=2", 1);
        gives("2*3=6", 1);
        gives("1+(1=2)", 1);
        gives("2<3 and 3<4", 1);
        gives("1=2 or 2<2", 0);
        gives("(1<2)<3", 1);
        gives("(3<2)=(2<1)", 1);
    }

    private static void wraps() {
        c.about("promise 7: ints that wrap");
        // 4096 * 4096 * 128 is 2 to the power of 31: the least int, -2147483648, which is 2 MOD 10.
        gives("4096*4096*128", 2);
        gives("4096*4096*128-1", 7);
        gives("4096*4096*128-1+1", 2);
        gives("0-4096*4096*128", 2);
        gives("4096*4096*128/(0-1)", 2);
        gives("4096*4096*128*(0-1)", 2);
        gives("4096*4096*256", 0);
        gives("4096*4096*128<0", 1);
        gives("0<4096*4096*128-1", 1);
        // 9999 to the third is 999700029999, which wraps to -1027349969; by 9999 that is cut to -102745.
        gives("9999*9999*9999", 1);
        gives("9999*9999*9999/9999", 5);
    }

    private static void values() {
        c.about("promise 7: 'size' of the FAN that is drawn from, 'own' of his own FAN, 'turn', 'me', 'last', 'card' (else 0)");
        gives("size-1", 9);
        gives("own", 9);
        gives("own-size+4", 3);
        gives("turn+3", 3);
        gives("me+4", 4);
        gives("last+5", 5);
        gives("card+6", 6);
        String fans = "people 3;pairs 9;fan 0 1 2 3 4 5 6 7;fan 1 queen 1 2 3 4 5;fan 2 6 7;";
        for (int person = 0; person < 3; person++) {
            int[] sizes = {7, 6, 2};
            int size = sizes[(person + 1) % 3];
            ofPerson(fans, person, "size-1", size - 1);
            ofPerson(fans, person, "own", sizes[person] % size);
            ofPerson(fans, person, "me", person % size);
            ofPerson(fans, person, "me*me+1", (person * person + 1) % size);
            ofPerson(fans, person, "turn", 0);
            ofPerson(fans, person, "last", 0);
            ofPerson(fans, person, "card", 0);
        }
        c.about("promise 7: 'turn' (DRAWS that were done), 'last' (the place at which he drew last; 0 if he didn't yet)");
        SootQueen x = c.told("people 3;pairs 9;fan 0 1 2 3 4 5;fan 1 queen 6 7 8 9;fan 2 6 7 8 9 1 2 3 4 5;"
            + "draws 0 last;draws 1 turn;draws 2 last+turn;");
        long[][] due = {{-1, 0, 0, 0}, {3, 3, 1, 1}, {5, 3, 2, 2}, {1, 3, 3, 4}, {2, 2, 4, 5}};
        for (int i = 0; i < due.length; i++) {
            if (i > 0) {
                x.draw((int) due[i][0]);
            }
            for (int person = 0; person < 3; person++) {
                int size = x.fan((person + 1) % 3, -1);
                c.eq("behind " + i + " draws: person(" + person + ", 1)", x.person(person, 1), due[i][1 + person] % size);
            }
        }
        x.undo();
        c.eq("one undone: 'last' of 0", x.person(0, 1), 3);
        c.eq("one undone: 'turn'", x.person(1, 1), 3);
    }

    private static void ofPerson(String fans, int person, String expr, int due) {
        SootQueen x = c.told(fans + "draws " + person + " " + expr + ";");
        c.eq("'" + expr + "' of person " + person, x.person(person, 1), due);
    }

    private static void modSize() {
        c.about("promise 7: MOD that FAN's size (0 on, also of what is below 0)");
        gives("9", 9);
        gives("10", 0);
        gives("11", 1);
        gives("9999", 9);
        gives("0-1", 9);
        gives("0-9", 1);
        gives("0-10", 0);
        gives("0-11", 9);
        gives("0-9999", 1);
        SootQueen one = c.told("fan 0 1;fan 1 1;fan 2 queen;draws 0 9;draws 1 0-9;draws 2 4096*4096*128;");
        for (int person = 0; person < 3; person++) {
            c.eq("of one card: person " + person, one.person(person, 1), 0);
        }
    }

    private static void withoutARule() {
        c.about("promise 7: Without a RULE one draws by 'size/2'");
        StringBuilder cards = new StringBuilder();
        for (int size = 1; size <= 9; size++) {
            cards.append(' ').append(size);
            SootQueen x = c.told("pairs 9;fan 0 queen" + cards + ";fan 1" + cards + ";");
            c.eq("of " + size, x.person(0, 1), size / 2);
        }
        c.eq("of 10", c.told(Checks.FULL).person(0, 1), 5);
    }
}
