/** Promise 3, table: how much of the tape, what goes and what stays, and the fans that come of it. */
public final class Promise03Test {
    private static final Checks c = new Checks();

    public static void main(String[] args) {
        firstBytes();
        notSoMany();
        allAnew();
        allStays();
        nothingOfAFault();
        goneAndStatusStays();
        peoplePairsAndSeed();
        tokens();
        atMost600();
        fansAsTold();
        fansDealt();
        firstTurn();
        c.end("Promise03Test");
    }

    private static void firstBytes() {
        c.about("promise 3: The tape's first n bytes (it is empty then) are a TABLE");
        SootQueen x = new SootQueen();
        Checks.feed(x, "seed 4321;pairs 7;people 2;");
        c.eq("all that is fed", x.count(8), 40);
        c.eq("table(18)", x.table(18), 0);
        c.eq("seed", x.count(2), 4321);
        c.eq("pairs", x.count(1), 7);
        c.eq("people: no more than the first 18", x.count(0), 3);
        c.eq("the tape is empty then, all of it", x.count(8), 0);
        c.illegal("table(1) then", () -> x.table(1));
        Checks.feed(x, "seed 4321;");
        c.eq("a number's first two figures", x.table(7), 1);
        c.eq("and no ; behind it", x.fault(), 7);
        c.eq("the tape is empty behind a FAULT too", x.count(8), 0);
        Checks.feed(x, "people 5;");
        c.eq("table(0): no LINE at all", x.table(0), 0);
        c.eq("the tape is empty then too", x.count(8), 0);
        c.eq("people", x.count(0), 3);
        c.eq("table(0) of an empty tape", x.table(0), 0);
        Checks.feed(x, "people 5;           ");
        c.eq("table of all of it", x.table(20), 0);
        c.eq("people", x.count(0), 5);
    }

    private static void notSoMany() {
        c.about("promise 3: IllegalArgumentException: the tape has not so many, n below 0 (nothing changes)");
        SootQueen x = c.told(Checks.FOUR);
        x.draw(1);
        x.image();
        Checks.table(x, "seed 1 1;");
        Checks.feed(x, "people 2;");
        for (int n : new int[] {21, 22, 601, Checks.MAX, -1, -2, Checks.MIN}) {
            c.illegal("table(" + n + ")", () -> x.table(n));
            c.eq("the tape", x.count(8), 20);
            c.eq("fault()", x.fault(), 7);
            c.eq("STATUS 0", x.count(9), 1);
        }
        c.fans(x, "1 2 3", "", "queen 1", "2 3");
        c.eq("what is kept", x.count(5), 1);
        c.yes("the image", x.restore());
        c.eq("the tape is as it was", x.table(20), 0);
        c.eq("people", x.count(0), 2);
        c.illegal("table(1) of an empty tape", () -> x.table(1));
    }

    private static void allAnew() {
        c.about("promise 3: a TABLE, all anew");
        SootQueen x = new SootQueen();
        // Thrice, as what was told before the last one mustn't come back either.
        for (int i = 0; i < 3; i++) {
            c.eq("table", Checks.table(x, "people 6;pairs 9;seed 5;draws 0 0;draws 2 0;draws 5 0;holds 0 0;holds 5 0;"
                + "habits 0 9 8 7 6 5 4;habits 5 1 2 3 4 5 6;fan 0 1;fan 5 1 queen;"), 0);
            c.eq("table, the same again", Checks.table(x, "people 6;pairs 9;seed 6;draws 0 0;draws 2 0;draws 5 0;holds 0 0;"
                + "holds 5 0;habits 0 9 8 7 6 5 4;habits 5 1 2 3 4 5 6;fan 0 1;fan 5 1 queen;"), 0);
            c.fans(x, "1", "", "", "", "", "1 queen");
            c.eq("his weight", x.person(5, 7), 6);
            c.eq("his weight", x.person(0, 2), 9);
            c.eq("his rule", x.person(0, 1), 0);
            c.eq("table", Checks.table(x, "people 6;"), 0);
            c.eq("pairs without", x.count(1), 5);
            c.eq("seed without", x.count(2), 0);
            for (int what = 2; what <= 7; what++) {
                c.eq("person(0, " + what + ")", x.person(0, what), 0);
                c.eq("person(5, " + what + ")", x.person(5, what), 0);
            }
            c.fans(x, "2 5", "", "2 4", "4 5", "queen 1", "1");
            c.eq("person 0 has no rule to draw", x.person(0, 1), 1);
            x.draw(1);
            c.same("nor one to hold", Checks.fan(x, 0), "2 5 4");
        }
        c.about("promise 3: 'last' is 0 if he didn't draw yet, all anew");
        SootQueen last = c.told(Checks.FOUR + "draws 0 last;");
        last.draw(1);
        c.eq("1", last.person(0, 1), 1);
        c.eq("table", Checks.table(last, Checks.FOUR + "draws 0 last;"), 0);
        c.eq("0", last.person(0, 1), 0);
    }

    private static void allStays() {
        c.about("promise 3: 0, or the FAULT (all stays)");
        SootQueen x = c.told(Checks.FOUR + "seed 7;draws 0 1;habits 2 1 2 3 4 5 6;");
        x.draw(1);
        x.image();
        x.draw(1);
        String[] faulty = {"people 2;pairs 1;seed 9;habits 2 9 9 9 9 9 9;draws 0 0;fan 0 queen queen;", "x",
            "people 2;pairs 1;fan 0 1 queen;", "draws 2 0;draws 3 (0;", "habits 2 0 0 0 0 0 0", "fan 3 1 queen;fan 4 1;"};
        for (String text : faulty) {
            c.yes("'" + text + "' has a fault", Checks.table(x, text) > 0);
            int[] due = {4, 3, 7, 3, 2, 2, 2, -1, 0};
            for (int i = 0; i < due.length; i++) {
                c.eq("count(" + i + ") behind '" + text + "'", x.count(i), due[i]);
            }
            c.fans(x, "1 2 3", "", "queen 1 3", "2");
            c.eq("his rule", x.person(0, 1), 1);
            c.eq("his weight", x.person(2, 4), 3);
        }
        c.eq("undo()", x.undo(), 1);
        c.yes("the image", x.restore());
        c.eq("draws", x.count(4), 1);
        c.eq("undo()", x.undo(), 0);
        c.fans(x, "1 2", "", "queen 3 1", "2 3");
        c.eq("STATUS 0", x.count(9), faulty.length);
        c.eq("a table without a fault, once more", Checks.table(x, "people 2;pairs 1;fan 0 1;fan 1 1 queen;"), 0);
        c.fans(x, "1", "1 queen");
        c.eq("no weight of what had a fault", x.person(1, 2), 0);
    }

    private static void nothingOfAFault() {
        c.about("promise 3: what had a FAULT is nothing to the next TEXT");
        String[] faulty = {"draws 0 not;", "draws 0 not not 1 +;", "draws 0 (", "draws 0 ((((((1", "draws 0 1+(2*(3", "draws 0 1<2=",
            "draws 0 1 or not (1 and", "holds 1 (((((1) x", "draws 0 not (not", "people 2;pairs 1;seed 1;fan 0 1 1", "fan 0 queen 1;",
            "seed 1;seed", "habits 0 9 9 9 9 9 9;habits 1 9", "draws 0 1;draws 1 1;draws 2 1;holds 0 0;x", "pairs 9;draws 0 1;people"};
        SootQueen x = new SootQueen();
        for (String text : faulty) {
            c.yes("'" + text + "' has a fault", Checks.table(x, text) > 0);
            c.eq("a table behind '" + text + "'", Checks.table(x, Checks.FULL + "draws 0 5;"), 0);
            c.eq("'5' behind '" + text + "'", x.person(0, 1), 5);
            c.yes("'" + text + "' has a fault", Checks.table(x, text) > 0);
            c.eq("a table behind '" + text + "'", Checks.table(x, Checks.FULL + "draws 0 (5);"), 0);
            c.eq("'(5)' behind '" + text + "'", x.person(0, 1), 5);
            c.yes("'" + text + "' has a fault", Checks.table(x, text) > 0);
            c.eq("an empty one behind '" + text + "'", x.table(0), 0);
            c.fans(x, "2 4", "queen 1", "2 1 4");
            c.eq("no rule behind '" + text + "'", x.person(1, 1), 1);
            c.eq("no weight behind '" + text + "'", x.person(0, 2), 0);
        }
    }

    private static void goneAndStatusStays() {
        c.about("promise 3: DRAWS, what is kept, the image are gone (STATUS stays)");
        SootQueen x = c.told(Checks.EVER);
        x.play(70);
        x.image();
        x.draw(9);
        x.draw(-1);
        Checks.table(x, "x");
        c.eq("table", Checks.table(x, Checks.EVER), 0);
        c.eq("draws done", x.count(4), 0);
        c.eq("draws kept", x.count(5), 0);
        c.eq("undo()", x.undo(), -1);
        c.eq("whose turn", x.count(3), 0);
        c.yes("no image", !x.restore());
        c.eq("seen habits", x.habit(0, 1), 0);
        c.eq("peeped", x.peeped(0, 2), 0);
        c.eq("belief isn't spent", x.belief(0, -1), 2);
        c.eq("STATUS 0", x.count(9), 1);
        c.eq("STATUS 1", x.count(10), 2);
    }

    private static void peoplePairsAndSeed() {
        c.about("promise 3: PEOPLE (2 to 6; 3 without), VALUES 1 to PAIRS (1 to 9; 5 without), SEED (0 without)");
        for (int people = 2; people <= 6; people++) {
            c.eq("people " + people, c.told("people " + people + ";").count(0), people);
        }
        for (int pairs = 1; pairs <= 9; pairs++) {
            SootQueen x = c.told("pairs " + pairs + ";fan 0 " + pairs + ";fan 1 " + pairs + " queen;");
            c.eq("pairs " + pairs, x.count(1), pairs);
            c.eq("the greatest value", x.fan(0, 0), pairs);
        }
        for (int seed : new int[] {0, 1, 9, 10, 99, 100, 999, 1000, 9998, 9999}) {
            c.eq("seed " + seed, c.told("seed " + seed + ";").count(2), seed);
        }
        SootQueen zeros = c.told("people 0004;pairs 0003;seed 0012;fan 0002 0003;fan 03 03 queen;habits 003 0 00 000 0000 01 0099;");
        c.eq("NUMBERS of 4 figures: people", zeros.count(0), 4);
        c.eq("pairs", zeros.count(1), 3);
        c.eq("seed", zeros.count(2), 12);
        c.fans(zeros, "", "", "3", "3 queen");
        c.eq("weight", zeros.person(3, 7), 99);
        SootQueen without = c.told("draws 0 0;");
        c.eq("people without", without.count(0), 3);
        c.eq("pairs without", without.count(1), 5);
        c.eq("seed without", without.count(2), 0);
        SootQueen turned = c.told("seed 77;pairs 6;people 4;");
        c.fans(turned, "6 1 3 4", "4 queen 5", "6 2 1", "2 3 5");
        c.about("promise 3: HABITS: a weight (0 to 99; 0 without)");
        SootQueen weights = c.told("habits 1 0 99 1 98 0 99;");
        int[] due = {0, 99, 1, 98, 0, 99};
        for (int i = 0; i < 6; i++) {
            c.eq("weight " + i, weights.person(1, 2 + i), due[i]);
            c.eq("without", weights.person(0, 2 + i), 0);
            c.eq("without", weights.person(2, 2 + i), 0);
        }
    }

    private static void tokens() {
        c.about("promise 3: blanks (32, 10) between TOKENS count for nothing");
        SootQueen tight = c.told("people2;pairs1;fan0 1queen;fan1 1;draws0(1)*size;holds1not 1<2and 3;habits1 1 2 3 4 5 6;");
        c.fans(tight, "1 queen", "1");
        SootQueen wide = c.told("\n\n people\n 2 \n;\npairs 1 ; fan \n 0 1\nqueen\n; fan 1\n1 ;\n\n");
        c.fans(wide, "1 queen", "1");
        c.told(" ");
        c.told("\n");
        c.told("");
        c.about("promise 3: words (a .. z, the longest row), NUMBERS");
        c.bad(1, "^peo ple 3;");
        c.bad(1, "^peoplepeople 3;");
        c.bad(1, "^seeds 3;");
        c.bad(1, "^see 3;");
        for (String word : new String[] {"people", "pairs", "seed", "fan", "draws", "holds", "habits"}) {
            for (int i = 0; i < word.length(); i++) {
                c.bad(1, "^" + word.substring(0, i) + "x" + word.substring(i + 1) + " 0 1 1 1 1 1 1;");
            }
        }
        for (String word : new String[] {"size", "own", "turn", "me", "last", "card", "not"}) {
            for (int i = 0; i < word.length(); i++) {
                c.bad(3, "draws 0 ^" + word.substring(0, i) + "x" + word.substring(i + 1) + ";");
            }
        }
        for (String word : new String[] {"zueen", "quzen", "queez"}) {
            c.bad(1, "fan 0 1 ^" + word + ";");
        }
        for (String word : new String[] {"zr", "oz", "znd", "azd", "anz"}) {
            c.bad(1, "draws 0 1 ^" + word + " 1;");
        }
        c.bad(1, "seed 1 ^2;");
        c.bad(3, "draws 0 ^sizesize;");
        c.bad(1, "draws 0 size ^size;");
        c.bad(3, "draws 0 not ^notnot 1;");
        c.bad(2, "seed ^12345;");
        c.bad(1, "draws 0 1 ^o r 1;");
    }

    private static void atMost600() {
        c.about("promise 3: A TEXT of at most 600 bytes");
        StringBuilder rule = new StringBuilder("draws 1 1");
        while (rule.length() < 599) {
            rule.append("+1");
        }
        SootQueen x = new SootQueen();
        c.eq("600 bytes are fed", Checks.feed(x, rule.append(';').toString()), 600);
        c.eq("table(600)", x.table(600), 0);
        c.eq("296 MOD 3", x.person(1, 1), 2);
        for (int i = 0; i < 5; i++) {
            Checks.feed(x, rule.toString());
            c.eq("table(600), once more", x.table(600), 0);
            c.eq("296 MOD 3, once more", x.person(1, 1), 2);
        }
        c.eq("600 again", Checks.feed(x, rule.toString()), 600);
        c.eq("without its last byte", x.table(599), 1);
        c.eq("fault()", x.fault(), 599);
        c.eq("his rule stays", x.person(1, 1), 2);
        StringBuilder semicolons = new StringBuilder("seed 1;");
        while (semicolons.length() < 599) {
            semicolons.append(' ');
        }
        c.eq("600 again", Checks.feed(x, semicolons.append(';').toString()), 600);
        c.eq("its last byte is a fault", x.table(600), 1);
        c.eq("fault()", x.fault(), 599);
    }

    private static void fansAsTold() {
        c.about("promise 3: FANS are as told, if some 'fan' is (others have none)");
        c.fans(c.told("seed 5;fan 2 queen;"), "", "", "queen");
        c.fans(c.told("fan 1 3 queen 1;fan 0 1 3;"), "1 3", "3 queen 1", "");
        c.about("promise 3: CARD*, any number of times");
        c.fans(c.told("fan 0;fan 1;fan 2 queen;"), "", "", "queen");
        c.fans(c.told(Checks.FULL), "1 2 3 4 5 6 7 8 9", "queen 1 2 3 4 5 6 7 8 9");
        c.fans(c.told("people 6;pairs 9;fan 5 9 8 7 6 5 4 3 2 1 queen;fan 4 1 3 5 7 9 2 4 6 8;"), "", "", "", "",
            "1 3 5 7 9 2 4 6 8", "9 8 7 6 5 4 3 2 1 queen");
    }

    /** These fans were worked out by a script apart from the class. */
    private static void fansDealt() {
        c.about("promise 3: else dealt by SEED; then in each FAN two of one VALUE are laid aside");
        c.fans(c.told("seed 0;"), "2 4", "queen 1", "2 1 4");
        c.fans(c.told("people 2;pairs 1;"), "", "queen");
        c.fans(c.told("people 2;pairs 1;seed 1;"), "1 queen", "1");
        c.fans(c.told("people 6;pairs 1;seed 5;"), "1", "queen", "1", "", "", "");
        c.fans(c.told("people 2;pairs 9;"), "6 queen 2 1", "2 6 1");
        c.fans(c.told("people 2;pairs 9;seed 1;"), "2 6 queen 8", "8 2 6");
        c.fans(c.told("people 4;pairs 6;seed 77;"), "6 1 3 4", "4 queen 5", "6 2 1", "2 3 5");
        c.fans(c.told("people 5;pairs 7;seed 1234;"), "6 5 4", "7 6 3", "1 queen 4", "7 2 1", "3 5 2");
        c.fans(c.told("people 6;pairs 9;seed 9999;"), "1 7 4 3", "6 queen 3", "9 7 4", "2", "5 6 1", "5 2 9");
    }

    private static void firstTurn() {
        c.about("promise 3: THE TURN is that of PERSON 0, or, where he is OUT, of the next who isn't");
        c.eq("0 isn't out", c.told("fan 0 1;fan 1 1 queen;").count(3), 0);
        c.eq("0 is", c.told("fan 1 1;fan 2 1 queen;").count(3), 1);
        c.eq("0 and 1 are", c.told("people 4;fan 2 1;fan 3 1 queen;").count(3), 2);
        c.eq("all but the last two are", c.told("people 6;fan 5 1;fan 4 1 queen;").count(3), 4);
        c.eq("dealt so", c.told("people 2;pairs 1;").count(3), -1);
        c.about("promise 3: It is OVER when fewer than two aren't OUT: who has the QUEEN has lost");
        for (int i = 0; i < 6; i++) {
            SootQueen alone = c.told("people 6;fan " + i + " queen;");
            c.eq("over", alone.count(3), -1);
            c.eq("has lost", alone.count(7), i);
            c.eq("has her", alone.count(6), i);
        }
        c.eq("two aren't out", c.told("fan 1 1;fan 2 1 queen;").count(7), -1);
    }
}
