import java.util.NoSuchElementException;

/** What the tests share: counting of what isn't as due, tables from texts, fans as texts. */
final class Checks {
    static final int MIN = Integer.MIN_VALUE;
    static final int MAX = Integer.MAX_VALUE;

    /** Person 1 is out; by the rules 2 loses behind five draws: 3, 3, 102, 101, 103. */
    static final String FOUR = "people 4;pairs 3;fan 0 1 2;fan 2 queen 3 1;fan 3 2 3;";
    /** By their rules these two hand the queen to and fro for ever. */
    static final String EVER = "people 2;pairs 1;fan 0 1;fan 1 1 queen;draws 0 1;draws 1 1;";
    /** Person 0 draws from 10 cards and has 9. */
    static final String FULL = "people 2;pairs 9;fan 0 1 2 3 4 5 6 7 8 9;fan 1 queen 1 2 3 4 5 6 7 8 9;";

    /** As EVER, but over behind exactly so many draws by the rules (1 or more): 1 has lost if they are odd, else 0. */
    static String overBehind(int draws) {
        int last = draws - 1;
        return "people 2;pairs 1;fan 0 1;fan 1 1 queen;draws 0 turn<" + last + ";draws 1 turn<" + last + ";";
    }

    interface Call {
        long of();
    }

    private int wrong = 0;
    private int done = 0;
    private String about = "";

    void about(String newAbout) {
        about = newAbout;
    }

    void eq(String what, long got, long want) {
        done++;
        if (got != want) {
            wrong++;
            System.out.println(about + ": " + what + " answered " + got + ", due is " + want);
        }
    }

    void same(String what, String got, String want) {
        done++;
        if (!got.equals(want)) {
            wrong++;
            System.out.println(about + ": " + what + " answered '" + got + "', due is '" + want + "'");
        }
    }

    void yes(String what, boolean holds) {
        eq(what, holds ? 1 : 0, 1);
    }

    /** The call throws this exception by a statement of the class, the machine doesn't. */
    void noSuch(String what, Call call) {
        same(what, outcome(call), "NoSuchElementException");
    }

    void illegal(String what, Call call) {
        same(what, outcome(call), "IllegalArgumentException");
    }

    /** The answer, or the exception's name; what the machine or its library throws is called so. */
    static String outcome(Call call) {
        try {
            return "" + call.of();
        } catch (RuntimeException e) {
            String thrower = e.getStackTrace().length > 0 ? e.getStackTrace()[0].getClassName() : "";
            boolean own = e.getMessage() == null && (thrower.startsWith("SootQueen") || thrower.startsWith("Model"));
            return e.getClass().getSimpleName() + (own ? "" : " of the machine");
        }
    }

    /** Feeds a text, blanks behind it up to a multiple of twenty; what the last feed answered. */
    static int feed(SootQueen x, String text) {
        int last = SootQueen.NONE;
        for (int at = 0; at < text.length(); at += 20) {
            int[] five = new int[5];
            for (int i = 0; i < 20; i++) {
                int sign = at + i < text.length() ? text.charAt(at + i) : ' ';
                five[i / 4] = five[i / 4] << 8 | sign;
            }
            last = x.feed(five[0], five[1], five[2], five[3], five[4]);
        }
        return last;
    }

    static int table(SootQueen x, String text) {
        feed(x, text);
        return x.table(text.length());
    }

    SootQueen told(String text) {
        SootQueen x = new SootQueen();
        eq("table of '" + text + "'", table(x, text), 0);
        return x;
    }

    /** A text has this fault at the place of the mark ^, which is no part of it. */
    void bad(int code, String marked) {
        int place = marked.indexOf('^');
        String text = marked.substring(0, place) + marked.substring(place + 1);
        SootQueen x = new SootQueen();
        eq("table of '" + text + "'", table(x, text), code);
        eq("fault() of '" + text + "'", x.fault(), place);
        eq("STATUS 0 by '" + text + "'", x.count(9), 1);
    }

    /** A fan as the text of a table would tell it, blanks between the cards. */
    static String fan(SootQueen x, int person) {
        StringBuilder all = new StringBuilder();
        for (int i = 0; i < x.fan(person, SootQueen.NONE); i++) {
            int card = x.fan(person, i);
            all.append(i == 0 ? "" : " ").append(card == 0 ? "queen" : "" + card);
        }
        return all.toString();
    }

    /** All fans, from person 0 on. */
    void fans(SootQueen x, String... due) {
        eq("people", x.count(0), due.length);
        for (int i = 0; i < due.length; i++) {
            same("fan " + i, fan(x, i), due[i]);
        }
    }

    void end(String name) {
        System.out.println(name + ": " + done + " checks, " + wrong + " not as due");
        if (wrong > 0 || done == 0) {
            System.exit(1);
        }
    }
}
