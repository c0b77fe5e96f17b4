/** Promise 4, fault; the places of all kinds of faults are in Promise03FaultsTest. */
public final class Promise04Test {
    private static final Checks c = new Checks();

    public static void main(String[] args) {
        c.about("promise 4: NONE without");
        SootQueen x = new SootQueen();
        c.eq("before any table()", x.fault(), -1);
        Checks.feed(x, "people 2;");
        c.eq("before it still", x.fault(), -1);
        c.eq("table", x.table(20), 0);
        c.eq("without", x.fault(), -1);
        c.about("promise 4: The place of the latest table()'s FAULT");
        c.eq("table", Checks.table(x, "people 2;pairs 10;"), 2);
        c.eq("fault()", x.fault(), 15);
        c.eq("fault() again", x.fault(), 15);
        c.eq("another", Checks.table(x, "x"), 1);
        c.eq("at place 0", x.fault(), 0);
        c.eq("another", Checks.table(x, " \n x"), 1);
        c.eq("the latest", x.fault(), 3);
        c.about("promise 4: a table() that throws changes nothing");
        c.illegal("table(-1)", () -> x.table(-1));
        c.illegal("table(1)", () -> x.table(1));
        c.eq("fault()", x.fault(), 3);
        c.about("promise 4: other calls change nothing");
        x.draw(0);
        x.draw(99);
        x.undo();
        x.image();
        x.restore();
        Checks.feed(x, "people 2;");
        c.eq("fault()", x.fault(), 3);
        c.about("promise 4: NONE without, behind one with a FAULT");
        c.eq("table", x.table(9), 0);
        c.eq("fault()", x.fault(), -1);
        c.eq("the empty text", x.table(0), 0);
        c.eq("fault()", x.fault(), -1);
        c.end("Promise04Test");
    }
}
