/**
 * Each promise by its ordinary inputs, its edges and its wrong inputs. What is due was worked out by hand;
 * dealt fans, the 43 of 60 evenings, and the 19033 and 20017 tries by a small script apart from the class.
 */
public final class PromiseTest {
    /** Person 1 is out; 2 loses behind five draws: 3, 3, 102, 101, 103. */
    private static final String FOUR = "people 4;pairs 3;fan 0 1 2;fan 2 queen 3 1;fan 3 2 3;";
    /** By their rules these two hand the queen to and fro for ever. */
    private static final String EVER = "people 2;pairs 1;fan 0 1;fan 1 1 queen;draws 0 1;draws 1 1;";
    /** Person 0 draws from 10 cards and has 9. */
    private static final String FULL = "people 2;pairs 9;fan 0 1 2 3 4 5 6 7 8 9;fan 1 queen 1 2 3 4 5 6 7 8 9;";
    /** Person 0 draws the queen, 4 or 5 at places 0, 1, 2 and pairs behind these. */
    private static final String HOLDS = "people 3;pairs 5;fan 0 1 2 3;fan 1 queen 4 5 1 2 3;fan 2 4 5;";
    private static final int MIN = Integer.MIN_VALUE;
    private static final int MAX = Integer.MAX_VALUE;

    private final Checks c = new Checks();

    public static void main(String[] args) {
        PromiseTest t = new PromiseTest();
        t.newObject();
        t.feed();
        t.table();
        t.faults();
        t.faultsOfExpressions();
        t.fault();
        t.count();
        t.fan();
        t.person();
        t.expressions();
        t.draw();
        t.holding();
        t.play();
        t.undo();
        t.ends();
        t.has();
        t.blind();
        t.two();
        t.belief();
        t.peeped();
        t.hold();
        t.choose();
        t.seats();
        t.evenings();
        t.wouldLose();
        t.isOutAndRank();
        t.habit();
        t.face();
        t.imageAndRestore();
        t.c.end("PromiseTest");
    }

    private void newObject() {
        c.about("promise 1");
        SootQueen x = new SootQueen();
        int[] due = {3, 5, 0, 0, 0, 0, 1, -1, 0, 0, 0};
        for (int i = 0; i < due.length; i++) {
            c.eq("count(" + i + ")", x.count(i), due[i]);
        }
        c.eq("fan 0", Checks.fan(x, 0), 124);
        c.eq("fan 1", Checks.fan(x, 1), 101);
        c.eq("fan 2", Checks.fan(x, 2), 1214);
        c.eq("fault()", x.fault(), -1);
        c.eq("undo()", x.undo(), -1);
        c.yes("no image", !x.restore());
        c.eq("person(2, 7)", x.person(2, 7), 0);
        c.eq("person(0, 1)", x.person(0, 1), 1);
        c.eq("NONE", SootQueen.NONE, -1);
    }

    private void feed() {
        c.about("promise 2");
        SootQueen x = new SootQueen();
        // "seed 42;" and blanks, the highest byte of each number first.
        c.eq("feed", x.feed(0x73656564, 0x2034323b, 0x20202020, 0x20202020, 0x20202020), 20);
        c.eq("table", x.table(20), 0);
        c.eq("seed", x.count(2), 42);
        // All five numbers come, in their order: "people 2;pair s 1; seed 7" in pieces of four.
        x.feed(0x70656f70, 0x6c652032, 0x3b706169, 0x72732031, 0x3b73656d);
        c.eq("its last number is read", x.table(20), 1);
        c.eq("its place", x.fault(), 17);
        // A byte above 127 is no token, wherever it stands.
        x.feed(0x20202020, 0x20202020, 0x20202020, 0x20202020, 0x202020ff);
        c.eq("byte 255", x.table(20), 1);
        c.eq("its place", x.fault(), 19);
        x.feed(-1, 0, 0, 0, 0);
        c.eq("byte 255 first", x.table(20), 1);
        c.eq("its place", x.fault(), 0);
        for (int i = 1; i <= 30; i++) {
            c.eq("feed " + i, x.feed(0x20202020, 0x20202020, 0x20202020, 0x20202020, 0x20202020), 20 * i);
        }
        c.eq("feed beyond 600", x.feed(1, 2, 3, 4, 5), -1);
        c.eq("count(8)", x.count(8), 600);
        c.eq("600 blanks", x.table(600), 0);
        c.eq("count(8) then", x.count(8), 0);
    }

    private void table() {
        c.about("promise 3");
        SootQueen x = new SootQueen();
        c.illegal("table(1)", () -> x.table(1));
        c.illegal("table(-1)", () -> x.table(-1));
        c.illegal("table(MIN)", () -> x.table(MIN));
        c.illegal("table(MAX)", () -> x.table(MAX));
        c.eq("table(0)", x.table(0), 0);
        Checks.feed(x, "people 4;pairs 6;seed 77;");
        c.illegal("table(41)", () -> x.table(41));
        c.eq("nothing changes", x.count(8), 40);
        c.eq("the first 25 bytes", x.table(25), 0);
        c.eq("the tape is empty then", x.count(8), 0);
        c.eq("people", x.count(0), 4);
        c.eq("pairs", x.count(1), 6);
        c.eq("seed", x.count(2), 77);
        c.eq("fan 0", Checks.fan(x, 0), 16134);
        c.eq("fan 1", Checks.fan(x, 1), 1405);
        c.eq("fan 2", Checks.fan(x, 2), 1621);
        c.eq("fan 3", Checks.fan(x, 3), 1235);
        x.draw(0);
        x.draw(99);
        x.image();
        c.eq("a fault", Checks.table(x, "people 4;pairs 0;"), 2);
        c.eq("the tape is empty then too", x.count(8), 0);
        c.eq("all stays: people", x.count(0), 4);
        c.eq("all stays: pairs", x.count(1), 6);
        c.eq("all stays: draws", x.count(4), 1);
        c.eq("all stays: undone", x.count(5), 1);
        c.yes("all stays: the image", x.restore());
        c.eq("anew", Checks.table(x, "seed 9999;people 6;pairs 9;"), 0);
        c.eq("fan 1", Checks.fan(x, 1), 1603);
        c.eq("fan 3", Checks.fan(x, 3), 12);
        c.eq("draws are gone", x.count(4), 0);
        c.eq("what is kept is gone", x.count(5), 0);
        c.yes("the image is gone", !x.restore());
        c.eq("STATUS 0 stays", x.count(9), 1);
        c.eq("STATUS 1 stays", x.count(10), 1);
        c.eq("nothing told", Checks.table(x, " \n"), 0);
        c.eq("people again", x.count(0), 3);
        c.eq("fan 2", Checks.fan(x, 2), 1214);
        allAnew();
    }

    private void allAnew() {
        SootQueen x = c.told("draws 0 0;holds 0 0;habits 2 1 2 3 4 5 6;fan 0 queen 1;fan 1 1;");
        c.eq("person(2, 7)", x.person(2, 7), 6);
        c.eq("others have none", x.fan(2, -1), 0);
        c.eq("table", Checks.table(x, "seed 0000;people 0003;pairs 05;"), 0);
        c.eq("habits are gone", x.person(2, 7), 0);
        c.eq("rules are gone", x.person(0, 1), 1);
        c.eq("fans are dealt", Checks.fan(x, 0), 124);
        SootQueen over = c.told("people 2;pairs 1;");
        c.eq("a pair is laid aside at once", over.fan(0, -1), 0);
        c.eq("it is over", over.count(3), -1);
        c.eq("who has lost", over.count(7), 1);
        SootQueen alone = c.told("fan 2 queen;");
        c.eq("alone with her", alone.count(7), 2);
        SootQueen first = c.told("fan 1 queen 1;fan 2 1;");
        c.eq("the turn where 0 is out", first.count(3), 1);
        SootQueen tight = c.told("people\n2;pairs 1;fan0 1queen;fan1 1;draws0(1)*size;");
        c.eq("without blanks", Checks.fan(tight, 0), 110);
    }

    private void bad(String text, int code, int place) {
        SootQueen x = new SootQueen();
        c.eq("table of '" + text + "'", Checks.table(x, text), code);
        c.eq("fault() of '" + text + "'", x.fault(), place);
    }

    private void faults() {
        c.about("promise 3, faults");
        bad("people", 1, 6);
        bad("people  ", 1, 8);
        bad("people 3", 1, 8);
        bad("people x;", 1, 7);
        bad("people 3 3;", 1, 9);
        bad("People 3;", 1, 0);
        bad("people\t3;", 1, 6);
        bad("peoples 3;", 1, 0);
        bad("; ", 1, 0);
        bad("3;", 1, 0);
        bad("people 3;;", 1, 9);
        bad("people 0;", 2, 7);
        bad("people 00003;", 2, 7);
        bad("people 12345;", 2, 7);
        bad("people 99999999999999999999;", 2, 7);
        bad("seed 10000;", 2, 5);
        bad("seed 1;seed x;", 5, 7);
        bad("pairs 3;pairs 3;", 5, 8);
        bad("habits 0 1 1 1 1 1 1;pairs 3;", 2, 21);
        bad("people 3;draws 0 1;people 3;", 2, 19);
        bad("draws 0 1;seed 3;seed 4;", 5, 17);
        bad("fan queen;", 1, 4);
        bad("fan 00000 queen;", 2, 4);
        bad("fan 9999 queen;", 3, 4);
        bad("people 2;fan 2 queen;", 3, 13);
        bad("holds 3 1;", 3, 6);
        bad("habits 3 1 1 1 1 1 1;", 3, 7);
        bad("fan 0 queen queen;", 4, 12);
        bad("fan 0 0;", 2, 6);
        bad("pairs 2;fan 0 3;", 2, 14);
        bad("fan 0 12345;", 2, 6);
        bad("fan 0 1 size;", 1, 8);
        bad("fan 0 1 (", 1, 8);
        bad("fan 0 1", 1, 7);
        bad("fan 0;", 6, 6);
        bad("fan 0 1 queen;fan 1 1 2;  ", 6, 26);
        bad("fan 0 1;fan 1 1;", 6, 16);
        bad("holds 1 1;holds 1 1;", 5, 16);
        bad("habits 1 1 1 1 1 1 1;habits 1 1 1 1 1 1 1;", 5, 28);
        bad("fan 0;fan 0;", 5, 10);
        bad("habits 0 1 1 1 1 1 99999;", 2, 19);
        bad("habits 0 1 1 1 1 1 1 1;", 1, 21);
        bad("habits 0 1 1 1 1 1", 1, 18);
        c.told("habits 0 99 0 0 0 0 0;draws 0 9999;holds 0 0;fan 0;fan 1 queen;seed 1;");
        StringBuilder most = new StringBuilder("draws 0 1");
        while (most.length() < 599) {
            most.append("+1");
        }
        c.told(most.append(";").substring(0, most.length()));
    }

    private void faultsOfExpressions() {
        c.about("promise 3, faults of expressions");
        bad("draws 0 ", 1, 8);
        bad("draws 0 -1;", 1, 8);
        bad("draws 0 1+;", 1, 10);
        bad("draws 0 1 2;", 1, 10);
        bad("draws 0 1 size;", 1, 10);
        bad("draws 0 1 12345;", 1, 10);
        bad("draws 0 1 not 2;", 1, 10);
        bad("draws 0 1);", 1, 9);
        bad("draws 0 ();", 1, 9);
        bad("draws 0 (1;", 1, 10);
        bad("draws 0 (1", 1, 10);
        bad("draws 0 1<2<3;", 1, 11);
        bad("draws 0 1<2+1=3;", 1, 13);
        bad("draws 0 not 1=2=3;", 1, 15);
        bad("draws 0 1>2;", 1, 9);
        bad("draws 0 12345;", 2, 8);
        bad("draws 0 1+00000;", 2, 10);
        bad("draws 0 queen;", 3, 8);
        bad("draws 0 or 1;", 3, 8);
        bad("draws 0 1 and and 1;", 3, 14);
        bad("draws 0 1+not 1;", 3, 10);
        bad("draws 0 1<not 1;", 3, 10);
        bad("draws 0 1*sizes;", 3, 10);
        bad("draws 0 ((((((cards))))));", 2, 14);
        bad("draws 0 ((((((not 1))))));", 2, 14);
        bad("draws 0 ((((((((1))))))));", 2, 14);
        bad("draws 0 ((((((;", 1, 14);
        bad("draws 0 ((((((", 1, 14);
        bad("draws 0 (((((()", 1, 14);
        bad("draws 0 1+((((((1))))));", 2, 16);
        bad("holds 2 (not not not not not not not 1);", 2, 33);
        bad("draws 0 1 and not not not not not not not 1;", 2, 38);
        c.told("draws 0 (((((1)))))+(((((size)))));holds 0 not not not not not not (not not 1);");
        c.told("draws 0 1<2 and 2=2 or not 3<4 and not (1<2)=(2<3);");
    }

    private void fault() {
        c.about("promise 4");
        SootQueen x = new SootQueen();
        c.eq("table", Checks.table(x, "people 2;pairs 10;"), 2);
        c.eq("fault()", x.fault(), 15);
        c.illegal("table(-1)", () -> x.table(-1));
        c.eq("it stays where nothing changes", x.fault(), 15);
        c.eq("another", Checks.table(x, "x"), 1);
        c.eq("the latest", x.fault(), 0);
        c.eq("without", Checks.table(x, "people 2;"), 0);
        c.eq("none", x.fault(), -1);
    }

    private void count() {
        c.about("promise 5");
        SootQueen x = c.told(FOUR);
        int[] due = {4, 3, 0, 0, 0, 0, 2, -1, 0, 0, 0};
        for (int i = 0; i < due.length; i++) {
            c.eq("count(" + i + ")", x.count(i), due[i]);
        }
        x.play(3);
        c.eq("turn", x.count(3), 0);
        c.eq("done", x.count(4), 3);
        x.undo();
        c.eq("turn", x.count(3), 3);
        c.eq("can be undone", x.count(5), 2);
        x.play(200);
        c.eq("over", x.count(3), -1);
        c.eq("lost", x.count(7), 2);
        x.draw(0);
        c.eq("STATUS 1", x.count(10), 1);
        Checks.table(x, "x");
        c.eq("STATUS 0", x.count(9), 1);
        Checks.feed(x, "x");
        c.eq("tape", x.count(8), 20);
        for (int what : new int[] {-1, 11, MIN, MAX}) {
            c.noSuch("count(" + what + ")", () -> x.count(what));
        }
    }

    private void fan() {
        c.about("promise 6");
        SootQueen x = c.told(FOUR);
        c.eq("fan(2, NONE)", x.fan(2, -1), 3);
        c.eq("fan(2, 0)", x.fan(2, 0), 0);
        c.eq("fan(2, 2)", x.fan(2, 2), 1);
        c.eq("fan(1, NONE)", x.fan(1, -1), 0);
        for (int place : new int[] {3, -2, 10, MIN, MAX}) {
            c.noSuch("fan(2, " + place + ")", () -> x.fan(2, place));
        }
        c.noSuch("fan(1, 0)", () -> x.fan(1, 0));
        for (int person : new int[] {-1, 4, 6, MIN, MAX}) {
            c.noSuch("fan(" + person + ", NONE)", () -> x.fan(person, -1));
        }
    }

    private void person() {
        c.about("promise 7");
        SootQueen x = c.told(FOUR + "draws 2 me-me-1;habits 3 9 8 7 6 5 4;");
        int[] from = {2, -1, 3, 0};
        int[] place = {1, -1, 1, 1};
        for (int i = 0; i < 4; i++) {
            c.eq("person(" + i + ", 0)", x.person(i, 0), from[i]);
            c.eq("person(" + i + ", 1)", x.person(i, 1), place[i]);
        }
        for (int i = 0; i < 6; i++) {
            c.eq("habit " + i, x.person(3, 2 + i), 9 - i);
            c.eq("no habit " + i, x.person(1, 2 + i), 0);
        }
        for (int what : new int[] {-1, 8, MIN, MAX}) {
            c.noSuch("person(0, " + what + ")", () -> x.person(0, what));
        }
        for (int who : new int[] {-1, 4, MIN, MAX}) {
            c.noSuch("person(" + who + ", 2)", () -> x.person(who, 2));
        }
        x.play(200);
        c.eq("over", x.person(2, 0), -1);
        c.eq("over", x.person(2, 1), -1);
        c.eq("habits when it is over", x.person(3, 2), 9);
    }

    private void gives(String expr, int due) {
        SootQueen x = c.told(FULL + "draws 0 " + expr + ";");
        c.eq("'" + expr + "' of ten", x.person(0, 1), due);
    }

    private void expressions() {
        c.about("expressions");
        gives("7", 7);
        gives("1+2*3", 7);
        gives("(1+2)*3", 9);
        gives("9-3-2", 4);
        gives("9-(3-2)", 8);
        gives("7/2*2", 6);
        gives("16/4/2", 2);
        gives("5/0", 0);
        gives("1-3", 8);
        gives("(0-7)/2", 7);
        gives("0-7/2", 7);
        gives("2<3", 1);
        gives("3<2", 0);
        gives("2<2", 0);
        gives("2=2", 1);
        gives("2=3", 0);
        gives("1+1=2", 1);
        gives("5+(3<4)", 6);
        gives("not 0", 1);
        gives("not 5", 0);
        gives("not not 5", 1);
        gives("not 1<2", 0);
        gives("not 2<1 and 3", 1);
        gives("1 or 0 and 0", 1);
        gives("(1 or 0) and 0", 0);
        gives("2 and 3", 1);
        gives("0 or 7", 1);
        gives("0 or 0 or 0", 0);
        gives("7 and 0-1", 1);
        gives("size-1", 9);
        gives("own", 9);
        gives("turn+3", 3);
        gives("me+4", 4);
        gives("last+5", 5);
        gives("card+6", 6);
        // 2 to the power of 31 wraps to the least int, which stays so by -1; MOD ten it is 2.
        gives("4096*4096*128", 2);
        gives("4096*4096*128/(0-1)", 2);
        gives("4096*4096*128-1", 7);
        gives("4096*4096*256", 0);
    }

    private void draw() {
        c.about("promise 8");
        SootQueen x = c.told(FOUR);
        c.eq("no such place", x.draw(3), -1);
        c.eq("no such place", x.draw(-1), -1);
        c.eq("no such place", x.draw(MAX), -1);
        c.eq("no such place", x.draw(MIN), -1);
        c.eq("STATUS 1", x.count(10), 4);
        c.eq("nothing drawn", x.count(4), 0);
        c.eq("draw(1)", x.draw(1), 3);
        c.eq("fan 0", Checks.fan(x, 0), 1123);
        c.eq("fan 2", Checks.fan(x, 2), 101);
        c.eq("turn", x.count(3), 2);
        c.eq("draw(1)", x.draw(1), 3);
        c.eq("draw(1)", x.draw(1), 102);
        c.eq("3 is out", x.fan(3, -1), 0);
        c.eq("fan 0", Checks.fan(x, 0), 113);
        c.eq("turn", x.count(3), 0);
        c.eq("the queen", x.draw(0), 0);
        c.eq("fan 0", Checks.fan(x, 0), 1130);
        c.eq("who has her", x.count(6), 0);
        c.eq("draws done", x.count(4), 4);
        x.undo();
        c.eq("draw(1)", x.draw(1), 101);
        c.eq("from 0, as 3 is out", x.person(2, 0), 0);
        c.eq("draw(0)", x.draw(0), 103);
        c.eq("over", x.count(7), 2);
        c.eq("draw when over", x.draw(0), -1);
        c.eq("STATUS 1", x.count(10), 5);
    }

    private void held(String rule, int place, long due) {
        SootQueen x = c.told(HOLDS + "holds 0 " + rule + ";");
        x.draw(place);
        c.eq("fan 0 by 'holds 0 " + rule + "', drawn at " + place, Checks.fan(x, 0), due);
    }

    private void holding() {
        c.about("promise 8, holds");
        held("card", 1, 14123);
        held("card", 2, 11523);
        held("card", 0, 10123);
        held("last", 2, 11253);
        held("last", 1, 11423);
        held("size", 1, 11234);
        held("size-1", 1, 11243);
        held("own-2", 1, 11423);
        held("turn", 1, 14123);
        held("me", 1, 14123);
        held("0-1", 1, 11234);
        held("5", 1, 11423);
        SootQueen x = c.told(HOLDS + "holds 1 me;holds 2 turn;draws 0 last+1;");
        c.eq("draw(0)", x.draw(0), 0);
        c.eq("'last' by his own draws", x.person(0, 1), 1);
        c.eq("draw(0)", x.draw(0), 104);
        c.eq("draw(3) by 2", x.draw(3), 0);
        // Two draws were done before it, 2 has one card, so 2 MOD 2.
        c.eq("fan 2", Checks.fan(x, 2), 105);
    }

    private void play() {
        c.about("promise 9");
        SootQueen x = c.told(FOUR);
        c.illegal("play(-1)", () -> x.play(-1));
        c.illegal("play(201)", () -> x.play(201));
        c.illegal("play(MIN)", () -> x.play(MIN));
        c.illegal("play(MAX)", () -> x.play(MAX));
        c.eq("play(0)", x.play(0), 0);
        c.eq("play(3)", x.play(3), 3);
        c.eq("fan 0", Checks.fan(x, 0), 113);
        c.eq("fan 2", Checks.fan(x, 2), 1013);
        c.eq("play(200)", x.play(200), 2);
        c.eq("play(200) when over", x.play(200), 0);
        c.eq("draws", x.count(4), 5);
        SootQueen ever = c.told(EVER);
        c.eq("play(200) for ever", ever.play(200), 200);
        c.eq("play(200) for ever", ever.play(200), 200);
        c.eq("draws", ever.count(4), 400);
        c.eq("kept", ever.count(5), 60);
    }

    private void undo() {
        c.about("promise 10");
        SootQueen x = c.told(FOUR + "draws 0 last;holds 0 0;");
        c.eq("undo()", x.undo(), -1);
        x.draw(1);
        c.eq("fan 0", Checks.fan(x, 0), 1312);
        c.eq("'last'", x.person(0, 1), 1);
        x.draw(1);
        x.draw(2);
        c.eq("a pair was laid aside", x.fan(3, -1), 0);
        c.eq("undo()", x.undo(), 2);
        c.eq("fan 3", Checks.fan(x, 3), 12);
        c.eq("fan 0", Checks.fan(x, 0), 1312);
        c.eq("turn", x.count(3), 3);
        c.eq("undo()", x.undo(), 1);
        c.eq("fan 2", Checks.fan(x, 2), 101);
        c.eq("undo()", x.undo(), 0);
        c.eq("fan 0", Checks.fan(x, 0), 112);
        c.eq("fan 2", Checks.fan(x, 2), 1031);
        c.eq("'last' is as it was", x.person(0, 1), 0);
        c.eq("draws", x.count(4), 0);
        c.eq("undo()", x.undo(), -1);
        undoOfMany();
    }

    private void undoOfMany() {
        SootQueen x = c.told(EVER);
        x.play(70);
        for (int i = 59; i >= 0; i--) {
            c.eq("undo()", x.undo(), i);
        }
        c.eq("undo() beyond 60", x.undo(), -1);
        c.eq("draws", x.count(4), 10);
        c.eq("turn", x.count(3), 0);
        x.play(3);
        c.eq("kept", x.count(5), 3);
        c.eq("SPENT", x.belief(0, -1), -2);
        for (int many : new int[] {59, 60, 61, 119, 120, 121, 180, 200}) {
            undoneAsPlayed(many);
        }
        SootQueen over = c.told(FOUR);
        over.play(200);
        c.eq("undo() when over", over.undo(), 4);
        c.eq("it isn't any more", over.count(3), 2);
        c.eq("nobody has lost", over.count(7), -1);
    }

    /** For ever too, but the queen lies and is drawn at other places every seven draws. */
    private void undoneAsPlayed(int many) {
        String text = "people 2;pairs 2;fan 0 1 2;fan 1 queen 1 2;draws 0 (turn-1)/7;draws 1 (turn-1)/7;"
            + "holds 0 turn/7;holds 1 turn/7;";
        SootQueen x = c.told(text);
        SootQueen fresh = c.told(text);
        c.eq("play(" + many + ")", x.play(many), many);
        for (int i = 0; i < 60; i++) {
            x.undo();
        }
        fresh.play(Math.max(0, many - 60));
        c.eq(many + " less 60: fan 0", Checks.fan(x, 0), Checks.fan(fresh, 0));
        c.eq(many + " less 60: fan 1", Checks.fan(x, 1), Checks.fan(fresh, 1));
        c.eq(many + " less 60: turn", x.count(3), fresh.count(3));
        c.eq(many + " less 60: draws", x.count(4), fresh.count(4));
        c.eq(many + " less 60: goes on", x.play(60), 60);
        c.eq("who has her", x.count(6), x.count(4) % 2 == 0 ? 1 : 0);
    }

    private void ends() {
        c.about("promise 11");
        SootQueen x = c.told(FOUR);
        c.eq("ends(0)", x.ends(0), 2);
        c.eq("ends(1)", x.ends(1), 5);
        c.eq("what is now stays", x.count(4), 0);
        c.eq("what is now stays", Checks.fan(x, 2), 1031);
        x.play(200);
        c.eq("ends(0)", x.ends(0), 2);
        c.eq("ends(1)", x.ends(1), 0);
        SootQueen ever = c.told(EVER);
        ever.play(200);
        c.eq("ends(0)", ever.ends(0), -1);
        c.eq("ends(1)", ever.ends(1), 200);
        for (int what : new int[] {-1, 2, MIN, MAX}) {
            c.noSuch("ends(" + what + ")", () -> x.ends(what));
        }
        // 'turn' goes on from now: with an even one 0 pairs, else he draws the queen.
        SootQueen turn = c.told("people 2;pairs 1;fan 0 1;fan 1 1 queen;draws 0 turn=2;draws 1 turn+0=1;");
        c.eq("ends(0) at turn 0", turn.ends(0), 1);
        c.eq("ends(1)", turn.ends(1), 1);
        turn.draw(1);
        turn.draw(1);
        c.eq("at turn 2 he draws her, and 1 pairs at turn 3", turn.ends(0), 0);
        c.eq("ends(1)", turn.ends(1), 2);
    }

    private void has() {
        c.about("promise 12");
        SootQueen x = c.told(FOUR);
        c.eq("has(2, false)", x.has(2, false), 5);
        c.eq("has(2, true)", x.has(2, true), 5);
        c.eq("has(0, false)", x.has(0, false), 0);
        c.eq("has(0, true)", x.has(0, true), 0);
        SootQueen ever = c.told(EVER);
        c.eq("has(0, false)", ever.has(0, false), 100);
        c.eq("has(1, false)", ever.has(1, false), 100);
        c.eq("has(0, true)", ever.has(0, true), 1);
        // 0 draws 2 and has her no more when 1 drew her; in between 1 has her behind draws 2 and 3.
        SootQueen some = c.told("people 2;pairs 2;fan 0 1 2 queen;fan 1 1 2;draws 0 0;draws 1 size-1;");
        c.eq("has(0, false)", some.has(0, false), 1);
        c.eq("has(1, true)", some.has(1, true), 2);
        c.eq("ends(0)", some.ends(0), 1);
        x.play(200);
        c.eq("when over", x.has(2, false), 0);
        for (int who : new int[] {-1, 4, MIN, MAX}) {
            c.noSuch("has(" + who + ", true)", () -> x.has(who, true));
        }
    }

    private void chance(SootQueen x, int person, int n, int what, long upper, long lower) {
        c.eq("blind(" + person + ", " + n + ", " + what + ")", x.blind(person, n, what), upper);
        c.eq("blind(" + person + ", " + n + ", " + (what + 1) + ")", x.blind(person, n, what + 1), lower);
    }

    private void blind() {
        c.about("promise 13");
        SootQueen x = c.told(EVER);
        chance(x, 0, 0, 0, 0, 1);
        chance(x, 1, 0, 0, 1, 1);
        chance(x, 0, 1, 0, 1, 2);
        chance(x, 0, 1, 2, 1, 2);
        chance(x, 1, 1, 4, 1, 2);
        chance(x, 0, 1, 4, 0, 1);
        chance(x, 0, 2, 0, 1, 4);
        chance(x, 1, 2, 0, 3, 4);
        chance(x, 0, 2, 4, 1, 4);
        chance(x, 1, 2, 4, 1, 2);
        chance(x, 0, 4, 4, 5, 16);
        chance(x, 1, 4, 4, 5, 8);
        chance(x, 1, 4, 0, 11, 16);
        chance(x, 1, 4, 2, 5, 16);
        SootQueen full = c.told(FULL);
        chance(full, 1, 0, 0, 1, 1);
        chance(full, 0, 1, 0, -2, -2);
        chance(full, 1, 4, 4, -2, -2);
        // Only if 0 draws the queen has he ten cards when 2 draws from him.
        SootQueen later = c.told("people 3;pairs 9;fan 0 1 2 3 4 5 6 7 8 9;fan 1 queen 1;fan 2 2 3 4 5 6 7 8 9;");
        chance(later, 0, 1, 0, 1, 2);
        chance(later, 1, 2, 0, 1, 2);
        chance(later, 1, 3, 0, -2, -2);
        SootQueen over = c.told("fan 1 queen;");
        chance(over, 1, 4, 4, 1, 1);
        chance(over, 0, 4, 2, 1, 1);
        for (int who : new int[] {-1, 2, MIN, MAX}) {
            c.noSuch("blind(" + who + ", 9, 9)", () -> x.blind(who, 9, 9));
        }
        for (int what : new int[] {-1, 6, MIN, MAX}) {
            c.noSuch("blind(0, 9, " + what + ")", () -> x.blind(0, 9, what));
        }
        for (int n : new int[] {-1, 5, MIN, MAX}) {
            c.illegal("blind(0, " + n + ", 0)", () -> x.blind(0, n, 0));
        }
    }

    private void two() {
        c.about("promise 14");
        SootQueen x = new SootQueen();
        // Without her b(k) = (1 + k b(k-2)) / (k + 2), b(0) = 0, b(1) = 1/3; with her a(k) = 1 - b(k-1), a(0) = 1.
        long[][] without = {{0, 1}, {1, 3}, {1, 4}, {2, 5}, {1, 3}, {3, 7}, {3, 8}, {4, 9}, {2, 5}, {5, 11}, {5, 12},
            {6, 13}, {3, 7}, {7, 15}};
        for (int k = 0; k <= 13; k++) {
            c.eq("two(" + k + ", false, 0)", x.two(k, false, 0), without[k][0]);
            c.eq("two(" + k + ", false, 1)", x.two(k, false, 1), without[k][1]);
            long upper = k == 0 ? 1 : without[k - 1][1] - without[k - 1][0];
            long lower = k == 0 ? 1 : without[k - 1][1];
            c.eq("two(" + k + ", true, 0)", x.two(k, true, 0), upper);
            c.eq("two(" + k + ", true, 1)", x.two(k, true, 1), lower);
        }
        for (int what : new int[] {-1, 2, MIN, MAX}) {
            c.noSuch("two(14, true, " + what + ")", () -> x.two(14, true, what));
        }
        for (int k : new int[] {-1, 14, MIN, MAX}) {
            c.illegal("two(" + k + ", false, 0)", () -> x.two(k, false, 0));
        }
    }

    private void belief() {
        c.about("promise 15");
        SootQueen x = c.told("people 2;pairs 1;fan 0 1;fan 1 1 queen;");
        c.eq("belief(0, NONE)", x.belief(0, -1), 2);
        c.eq("belief(0, 1)", x.belief(0, 1), 2);
        c.eq("belief(0, 0)", x.belief(0, 0), 0);
        c.eq("belief(1, NONE)", x.belief(1, -1), 1);
        c.eq("belief(1, 1)", x.belief(1, 1), 1);
        c.eq("belief(1, 0)", x.belief(1, 0), 0);
        x.draw(1);
        c.eq("belief(0, NONE) then", x.belief(0, -1), 1);
        c.eq("belief(0, 0) then", x.belief(0, 0), 1);
        c.eq("belief(0, 1) then", x.belief(0, 1), 0);
        // 2 has seen 0 draw from 1 at place 0 and lay nothing aside: by half of the 8 it could go so.
        SootQueen y = c.told("pairs 2;fan 0 1 2;fan 1 queen 1;fan 2 2;");
        c.eq("belief(2, NONE)", y.belief(2, -1), 8);
        y.draw(0);
        // 0: 1 2 and 1: queen 1, or 0: 2 1 and 1: queen 1, or 0: 1 queen and 1: 2 1, or 0: queen 1 and 1: 2 1.
        c.eq("belief(2, NONE) then", y.belief(2, -1), 4);
        c.eq("belief(2, 0) then", y.belief(2, 0), 4);
        c.eq("belief(2, 1) then", y.belief(2, 1), 0);
        // 1 knows that 2 has a 2, as no fan has two of them: 0 had 1 2 or 2 1.
        c.eq("belief(1, NONE)", y.belief(1, -1), 2);
        c.eq("belief(1, 0)", y.belief(1, 0), 2);
        c.eq("belief(1, 1)", y.belief(1, 1), 0);
        y.undo();
        c.eq("belief(2, NONE) undone", y.belief(2, -1), 8);
        beliefSpent();
    }

    private void beliefSpent() {
        SootQueen full = c.told(FULL);
        // Nine places for 1 to 9: 9 + 9*8 + .. tries, far above 20000.
        c.eq("SPENT", full.belief(1, -1), -2);
        c.eq("SPENT", full.belief(1, 1), -2);
        // Seven values in seven places: 7 + 7*6 + .. + 7! = 13699 tries, eight would have 109600.
        SootQueen seven = c.told("people 2;pairs 7;fan 0 1 2 3 4 5 6 7;fan 1 queen 1 2 3 4 5 6 7;");
        c.eq("13699 tries", seven.belief(1, -1), 5040);
        c.eq("109600 tries", seven.belief(0, -1), -2);
        // 0 is out and sees others with 4, 4 and 1 cards: 19033 tries; with 3, 5 and 1 there are 20017.
        SootQueen below = c.told("people 4;pairs 4;fan 1 1 2 3 queen;fan 2 1 2 3 4;fan 3 4;");
        c.eq("19033 tries", below.belief(0, -1), 5184);
        SootQueen above = c.told("people 4;pairs 4;fan 1 1 2 3;fan 2 1 2 3 4 queen;fan 3 4;");
        c.eq("20017 tries", above.belief(0, -1), -2);
        SootQueen ever = c.told(EVER);
        ever.play(60);
        c.eq("60 draws are kept", ever.belief(0, -1), 1);
        ever.play(1);
        c.eq("one isn't any more", ever.belief(0, -1), -2);
        ever.undo();
        c.eq("nor when the last is undone", ever.belief(0, -1), -2);
        for (int who : new int[] {-1, 2, MIN, MAX}) {
            c.noSuch("belief(" + who + ", NONE)", () -> ever.belief(who, -1));
        }
        for (int who : new int[] {-2, 2, MIN, MAX}) {
            c.noSuch("belief(0, " + who + ")", () -> ever.belief(0, who));
        }
    }

    private void peeped() {
        c.about("promise 16");
        SootQueen x = c.told(EVER);
        long[] none = {1, 1, 0, 0};
        long[] ever = {1, 4096, 30, 30};
        for (int i = 0; i < 4; i++) {
            c.eq("peeped(0, " + i + ")", x.peeped(0, i), none[i]);
        }
        x.play(1);
        c.eq("upper part", x.peeped(0, 0), 1);
        c.eq("lower part", x.peeped(0, 1), 2);
        c.eq("1 didn't draw", x.peeped(1, 2), 0);
        x.play(199);
        for (int i = 0; i < 4; i++) {
            c.eq("peeped(0, " + i + ")", x.peeped(0, i), ever[i]);
        }
        SootQueen y = c.told(FOUR);
        y.play(200);
        // 0 drew from 2 with her in a fan of 3 both times, and 2 never did.
        c.eq("peeped(0, 0)", y.peeped(0, 0), 4);
        c.eq("peeped(0, 1)", y.peeped(0, 1), 9);
        c.eq("peeped(0, 2)", y.peeped(0, 2), 2);
        c.eq("peeped(0, 3)", y.peeped(0, 3), 0);
        c.eq("peeped(2, 2)", y.peeped(2, 2), 0);
        SootQueen alone = c.told("pairs 1;fan 0 1;fan 1 queen;fan 2 1;");
        alone.draw(0);
        c.eq("out of one card: 0", alone.peeped(0, 0), 0);
        c.eq("by 1", alone.peeped(0, 1), 1);
        c.eq("he drew her", alone.peeped(0, 3), 1);
        for (int what : new int[] {-1, 4, MIN, MAX}) {
            c.noSuch("peeped(0, " + what + ")", () -> x.peeped(0, what));
        }
        for (int who : new int[] {-1, 2, MIN, MAX}) {
            c.noSuch("peeped(" + who + ", 0)", () -> x.peeped(who, 0));
        }
    }

    private void hold() {
        c.about("promise 17");
        SootQueen x = c.told("habits 0 0 6 3 6 0 99;");
        int[][] due = {{0, 0, 1}, {1, 1, 1}, {1, 2, 3}, {1, 2, 5}, {1, 2, 5}, {5, 33, 38}};
        for (int size = 1; size <= 6; size++) {
            for (int what = 0; what <= 2; what++) {
                c.eq("hold(0, " + size + ", " + what + ")", x.hold(0, size, what), due[size - 1][what]);
            }
        }
        c.eq("hold(1, 6, 0)", x.hold(1, 6, 0), 0);
        c.eq("hold(1, 6, 1)", x.hold(1, 6, 1), 0);
        c.eq("hold(1, 6, 2)", x.hold(1, 6, 2), 1);
        for (int what : new int[] {-1, 3, MIN, MAX}) {
            c.noSuch("hold(0, 9, " + what + ")", () -> x.hold(0, 9, what));
        }
        for (int who : new int[] {-1, 3, MIN, MAX}) {
            c.noSuch("hold(" + who + ", 9, 0)", () -> x.hold(who, 9, 0));
        }
        for (int size : new int[] {0, 7, -1, MIN, MAX}) {
            c.illegal("hold(0, " + size + ", 0)", () -> x.hold(0, size, 0));
        }
    }

    private void choose() {
        c.about("promise 18");
        SootQueen x = c.told("people 2;pairs 1;fan 0 1;fan 1 1 queen;");
        c.eq("choose(0, 0)", x.choose(0, 0), 0);
        c.eq("choose(0, 1)", x.choose(0, 1), 1);
        x.draw(0);
        c.eq("over", x.choose(1, 0), -1);
        x.undo();
        x.draw(1);
        c.eq("choose(1, 0): he knows where she was put", x.choose(1, 0), 0);
        c.eq("choose(1, 1)", x.choose(1, 1), 0);
        SootQueen first = c.told("people 2;pairs 1;fan 0 1;fan 1 1 queen;holds 0 0;");
        first.draw(1);
        c.eq("choose(1, 0): she lies at place 0", first.choose(1, 0), 1);
        c.eq("choose(1, 1)", first.choose(1, 1), 0);
        // 2 is out, so his next is none; who isn't in turn chooses all the same.
        SootQueen y = c.told("people 3;pairs 2;fan 0 1 2;fan 1 queen 1 2;");
        c.eq("out", y.choose(2, 0), -1);
        c.eq("choose(0, 1)", y.choose(0, 1), 2);
        c.eq("choose(1, 1)", y.choose(1, 1), 0);
        SootQueen full = c.told(FULL);
        c.eq("SPENT", full.choose(1, 0), -2);
        SootQueen ever = c.told(EVER);
        ever.play(61);
        c.eq("SPENT", ever.choose(0, 1), -2);
        ever.draw(0);
        c.eq("over, though spent", ever.choose(0, 1), -1);
        for (int what : new int[] {-1, 2, MIN, MAX}) {
            c.noSuch("choose(0, " + what + ")", () -> x.choose(0, what));
        }
        for (int who : new int[] {-1, 2, MIN, MAX}) {
            c.noSuch("choose(" + who + ", 0)", () -> x.choose(who, 0));
        }
    }

    private void seats() {
        c.about("promise 19");
        SootQueen x = c.told(EVER);
        c.eq("seats(0, 0)", x.seats(0, 0), 0);
        c.eq("seats(0, 1)", x.seats(0, 1), 1);
        c.eq("seats(0, 2)", x.seats(0, 2), -1);
        SootQueen over = c.told("people 6;fan 3 queen;");
        c.eq("over: 3 loses in all orders", over.seats(3, 0), 120);
        c.eq("over: first order of 3", over.seats(3, 2), -1);
        c.eq("over: first order of 0", over.seats(0, 2), 6 + 72 + 648 + 4 * 1296 + 5 * 7776);
        c.eq("over: none", over.seats(0, 1), 0);
        // 0 1 2: 0 pairs with 1, 2 has lost. 0 2 1: 0 draws her and has 1, queen; 1, who sits on seat 2,
        // draws at place 2 MOD 2, pairs, and 0 has lost.
        SootQueen me = c.told("pairs 1;fan 0 1;fan 1 1;fan 2 queen;draws 1 me;");
        int[][] due = {{1, 0, 6 + 72}, {0, 0, 6 + 72}, {1, 0, 12 + 36}};
        for (int i = 0; i < 3; i++) {
            for (int what = 0; what <= 2; what++) {
                c.eq("seats(" + i + ", " + what + ")", me.seats(i, what), due[i][what]);
            }
        }
        // Now he would draw her, at place 3 MOD 2; with 'turn' and 'last' 0 he pairs.
        SootQueen y = c.told("people 2;pairs 1;fan 0 1;fan 1 1 queen;draws 0 turn+last;draws 1 0;");
        y.draw(1);
        y.draw(1);
        c.eq("ends(0)", y.ends(0), 0);
        c.eq("seats(1, 0)", y.seats(1, 0), 1);
        c.eq("seats(0, 2)", y.seats(0, 2), 6);
        c.eq("what is now stays", y.count(4), 2);
        // The turn is the first seat's, not that of whose turn it is now.
        SootQueen z = c.told("people 2;pairs 2;fan 0 1 2;fan 1 1 2 queen;draws 0 1;");
        z.draw(0);
        c.eq("turn", z.count(3), 1);
        c.eq("1 pairs and has lost", z.ends(0), 1);
        c.eq("0 would draw her, to and fro", z.seats(1, 1), 1);
        SootQueen out = c.told("pairs 1;fan 1 1;fan 2 1 queen;draws 1 0;");
        c.eq("0 is out: the next seat's turn, in 0 1 2", out.seats(2, 0), 2);
        sumOfSeats(me, 2);
        sumOfSeats(c.told("people 6;pairs 9;seed 3;draws 1 turn;draws 2 last+1;holds 3 0;"), 120);
        for (int what : new int[] {-1, 3, MIN, MAX}) {
            c.noSuch("seats(0, " + what + ")", () -> x.seats(0, what));
        }
        for (int who : new int[] {-1, 2, MIN, MAX}) {
            c.noSuch("seats(" + who + ", 0)", () -> x.seats(who, 0));
        }
    }

    /** In every order one loses, or none does. */
    private void sumOfSeats(SootQueen x, int orders) {
        int sum = x.seats(0, 1);
        for (int i = 0; i < x.count(0); i++) {
            sum += x.seats(i, 0);
        }
        c.eq("orders", sum, orders);
    }

    private void evenings() {
        c.about("promise 20");
        // With one pair and two people 0 loses by a draw if he was dealt her, else it is over at once.
        SootQueen x = c.told("people 2;pairs 1;fan 0 queen;");
        for (int laws = 0; laws <= 3; laws++) {
            for (int luck = 0; luck <= 1; luck++) {
                boolean b = luck == 1;
                c.eq("0 loses", x.evenings(0, 60, laws, b, 0), 43);
                c.eq("1 loses", x.evenings(0, 60, laws, b, 1), 17);
                c.eq("not over", x.evenings(0, 60, laws, b, -1), 0);
                c.eq("longest", x.evenings(0, 60, laws, b, -2), 1);
                c.eq("by how much", x.evenings(0, 60, laws, b, -3), 26);
                c.eq("seeds below 0", x.evenings(-5, 10, laws, b, 0), 8);
                c.eq("seeds that wrap", x.evenings(MAX, 4, laws, b, 0), 3);
                c.eq("at once", x.evenings(0, 1, laws, b, -2), 0);
                c.eq("no evenings", x.evenings(0, 0, laws, b, -3), 0);
            }
        }
        c.eq("what is now stays", x.count(7), 0);
        shown();
        ahead();
        for (int who : new int[] {-4, 2, MIN, MAX}) {
            c.noSuch("evenings(0, 61, 4, true, " + who + ")", () -> x.evenings(0, 61, 4, true, who));
        }
        for (int many : new int[] {-1, 61, MIN, MAX}) {
            c.illegal("evenings(0, " + many + ", 0, true, 0)", () -> x.evenings(0, many, 0, true, 0));
        }
        for (int laws : new int[] {-1, 4, MIN, MAX}) {
            c.illegal("evenings(0, 1, " + laws + ", true, 0)", () -> x.evenings(0, 1, laws, true, 0));
        }
    }

    /** If the queen stays where she was, who was dealt her loses, if anybody does. */
    private void shown() {
        SootQueen dealt = new SootQueen();
        SootQueen x = new SootQueen();
        int lost = 0;
        for (int seed = 0; seed < 60; seed++) {
            Checks.table(dealt, "people 4;pairs 6;seed " + seed + ";");
            Checks.table(x, "people 4;pairs 6;");
            int her = dealt.count(6);
            int over = 1 - x.evenings(seed, 1, 2, true, -1);
            c.eq("seed " + seed, x.evenings(seed, 1, 2, true, her), over);
            lost += over;
        }
        c.yes("most are over", lost > 50);
        c.eq("all of them", x.evenings(0, 60, 2, true, -1), 60 - lost);
    }

    /** Three people with a card each, all of whom draw at place 0. */
    private void ahead() {
        SootQueen x = c.told("people 3;pairs 1;draws 0 0;draws 1 0;draws 2 0;");
        SootQueen dealt = new SootQueen();
        int[] dealtHer = new int[3];
        for (int seed = 0; seed < 60; seed++) {
            Checks.table(dealt, "people 3;pairs 1;seed " + seed + ";");
            int her = dealt.count(6);
            dealtHer[her]++;
            // her 0: he draws 1's card and has queen, value; 2 draws her and has value, queen; 0 pairs with
            // that. her 1: 0 draws her and has value, queen; 2 pairs with that. her 2: 0 and 1 pair.
            int[] lost = {2, 0, 2};
            c.eq("law 0, seed " + seed, x.evenings(seed, 1, 0, false, lost[her]), 1);
            // her 0: he draws 2's card and has queen, value; 1 draws her and has value, queen; 0 pairs with
            // that. her 1: 0 and 2 pair. her 2: 0 draws her and has value, queen; 1 pairs with that.
            int[] lostAhead = {1, 1, 0};
            c.eq("law 1, seed " + seed, x.evenings(seed, 1, 1, false, lostAhead[her]), 1);
        }
        c.yes("all of them were dealt her", dealtHer[0] > 0 && dealtHer[1] > 0 && dealtHer[2] > 0);
        c.eq("law 0: 0 loses", x.evenings(0, 60, 0, false, 0), dealtHer[1]);
        c.eq("law 0: 1 never does", x.evenings(0, 60, 0, false, 1), 0);
        c.eq("law 0: most by least", x.evenings(0, 60, 0, false, -3), dealtHer[0] + dealtHer[2]);
        c.eq("law 1: 2 never does", x.evenings(0, 60, 1, false, 2), 0);
        c.eq("law 0: longest", x.evenings(0, 60, 0, false, -2), 3);
    }

    private void wouldLose() {
        c.about("promise 21");
        SootQueen x = c.told(EVER);
        c.eq("wouldLose(0)", x.wouldLose(0), 1);
        c.eq("wouldLose(1)", x.wouldLose(1), -1);
        c.eq("wouldLose(NONE)", x.wouldLose(-1), 1);
        c.eq("wouldLose(-2)", x.wouldLose(-2), 0);
        c.eq("what is now stays", x.count(4), 0);
        c.noSuch("wouldLose(2)", () -> x.wouldLose(2));
        c.noSuch("wouldLose(-3)", () -> x.wouldLose(-3));
        c.noSuch("wouldLose(MIN)", () -> x.wouldLose(MIN));
        c.noSuch("wouldLose(MAX)", () -> x.wouldLose(MAX));
        // 0 has her and 1 one card alone: he pairs and has lost.
        SootQueen lost = c.told("people 2;pairs 1;fan 0 1 queen;fan 1 1;");
        c.eq("wouldLose(0)", lost.wouldLose(0), 0);
        c.eq("wouldLose(NONE)", lost.wouldLose(-1), 0);
        c.eq("wouldLose(-2)", lost.wouldLose(-2), -1);
        lost.draw(0);
        c.noSuch("over", () -> lost.wouldLose(0));
        c.noSuch("over", () -> lost.wouldLose(-1));
        c.noSuch("over", () -> lost.wouldLose(-2));
        // At place 1 he pairs and is rid of it; at place 0 he draws her, and 1 pairs at place 0.
        SootQueen second = c.told("people 2;pairs 1;fan 0 1;fan 1 queen 1;draws 1 0;");
        c.eq("wouldLose(0)", second.wouldLose(0), 0);
        c.eq("wouldLose(1)", second.wouldLose(1), 1);
        c.eq("wouldLose(-2)", second.wouldLose(-2), 1);
    }

    private void isOutAndRank() {
        c.about("promises 22 and 23");
        SootQueen x = c.told(FOUR);
        int[] out = {5, 0, -1, 3};
        int[] rank = {2, 0, -1, 1};
        for (int i = 0; i < 4; i++) {
            c.eq("isOut(" + i + ")", x.isOut(i), out[i]);
            c.eq("rank(" + i + ")", x.rank(i), rank[i]);
        }
        x.play(3);
        c.eq("isOut(3) now", x.isOut(3), 0);
        c.eq("rank(3) behind 1", x.rank(3), 1);
        c.eq("isOut(0) now", x.isOut(0), 2);
        // 1 and 0 are out behind the same draw: the lesser number is ahead.
        SootQueen both = c.told("pairs 1;fan 0 1;fan 1 1;fan 2 queen;");
        c.eq("isOut(0)", both.isOut(0), 1);
        c.eq("isOut(1)", both.isOut(1), 1);
        c.eq("rank(0)", both.rank(0), 0);
        c.eq("rank(1)", both.rank(1), 1);
        c.eq("rank(2)", both.rank(2), -1);
        SootQueen ever = c.told(EVER);
        c.eq("not in 200", ever.isOut(0), -1);
        c.eq("no rank", ever.rank(0), -1);
        for (int who : new int[] {-1, 4, MIN, MAX}) {
            c.noSuch("isOut(" + who + ")", () -> x.isOut(who));
            c.noSuch("rank(" + who + ")", () -> x.rank(who));
        }
    }

    private void habit() {
        c.about("promise 24");
        SootQueen x = c.told(EVER);
        c.eq("habit(0, 7)", x.habit(0, 7), -1);
        x.play(100);
        int[] due = {0, 30, 0, 0, 0, 0, 0, 1, 30, 30};
        for (int i = 0; i < due.length; i++) {
            c.eq("habit(0, " + i + ")", x.habit(0, i), due[i]);
        }
        SootQueen y = c.told(FOUR);
        y.play(200);
        // Twice from 2 while she was there, and she never went.
        c.eq("habit(2, 8)", y.habit(2, 8), 2);
        c.eq("habit(2, 9)", y.habit(2, 9), 0);
        c.eq("habit(0, 1)", y.habit(0, 1), 2);
        c.eq("habit(2, 7): places 1 and 0, once each", y.habit(2, 7), 0);
        SootQueen full = c.told(FULL);
        full.draw(8);
        full.draw(0);
        full.draw(6);
        full.draw(0);
        c.eq("further places", full.habit(0, 6), 2);
        c.eq("the place of most", full.habit(0, 7), 6);
        c.eq("no other", full.habit(0, 5), 0);
        full.undo();
        full.undo();
        c.eq("what is undone counts no more", full.habit(0, 6), 1);
        for (int what : new int[] {-1, 10, MIN, MAX}) {
            c.noSuch("habit(0, " + what + ")", () -> x.habit(0, what));
        }
        for (int who : new int[] {-1, 2, MIN, MAX}) {
            c.noSuch("habit(" + who + ", 0)", () -> x.habit(who, 0));
        }
    }

    private void face() {
        c.about("promise 25");
        SootQueen x = new SootQueen();
        int[][] due = {
            {2, 50, 1, 2, 1, 2, 0}, {2, 49, 49, 100, 51, 100, 1}, {6, 100, 1, 1, 0, 1, 0}, {6, 0, 0, 1, 1, 5, 1},
            {5, 20, 1, 5, 1, 5, 0}, {5, 19, 19, 100, 81, 400, 1}, {3, 34, 17, 50, 33, 100, 0}};
        for (int[] d : due) {
            for (int what = 0; what <= 4; what++) {
                c.eq("face(" + d[0] + ", " + d[1] + ", " + what + ")", x.face(d[0], d[1], what), d[2 + what]);
            }
        }
        for (int what : new int[] {-1, 5, MIN, MAX}) {
            c.noSuch("face(1, 101, " + what + ")", () -> x.face(1, 101, what));
        }
        for (int size : new int[] {1, 7, -1, MIN, MAX}) {
            c.illegal("face(" + size + ", 50, 0)", () -> x.face(size, 50, 0));
        }
        for (int high : new int[] {-1, 101, MIN, MAX}) {
            c.illegal("face(2, " + high + ", 4)", () -> x.face(2, high, 4));
        }
    }

    private void imageAndRestore() {
        c.about("promises 26 and 27");
        SootQueen x = c.told(FOUR + "draws 0 last;");
        c.yes("none", !x.restore());
        x.draw(1);
        x.image();
        x.draw(1);
        x.draw(1);
        x.draw(0);
        x.draw(99);
        c.yes("restore()", x.restore());
        c.eq("fan 0", Checks.fan(x, 0), 1123);
        c.eq("fan 2", Checks.fan(x, 2), 101);
        c.eq("fan 3", Checks.fan(x, 3), 123);
        c.eq("turn", x.count(3), 2);
        c.eq("draws", x.count(4), 1);
        c.eq("kept", x.count(5), 1);
        c.eq("'last'", x.person(0, 1), 1);
        c.eq("STATUS 1 is no part of it", x.count(10), 1);
        c.eq("undo()", x.undo(), 0);
        c.eq("fan 0", Checks.fan(x, 0), 112);
        c.yes("restore() again", x.restore());
        c.eq("draws", x.count(4), 1);
        x.draw(0);
        x.image();
        x.play(200);
        c.yes("in place of another one", x.restore());
        c.eq("draws", x.count(4), 2);
        Checks.table(x, "x");
        c.yes("a fault leaves it", x.restore());
        Checks.table(x, FOUR);
        c.yes("a table doesn't", !x.restore());
        SootQueen ever = c.told(EVER);
        ever.play(70);
        ever.image();
        ever.play(45);
        c.yes("restore()", ever.restore());
        c.eq("kept", ever.count(5), 60);
        c.eq("draws", ever.count(4), 70);
        c.eq("peeped(0, 2)", ever.peeped(0, 2), 30);
        c.eq("undo()", ever.undo(), 59);
        c.eq("turn", ever.count(3), 1);
    }
}
