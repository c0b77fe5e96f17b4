import java.util.NoSuchElementException;

/** What the tests share: counting of what isn't as due, and tables from texts. */
final class Checks {
    interface Call {
        long of();
    }

    private int wrong = 0;
    private int done = 0;
    private String about = "";

    void about(String newAbout) {
        about = newAbout;
    }

    void eq(String what, long got, long want) {
        done++;
        if (got != want) {
            wrong++;
            System.out.println(about + ": " + what + " answered " + got + ", due is " + want);
        }
    }

    void yes(String what, boolean holds) {
        eq(what, holds ? 1 : 0, 1);
    }

    void noSuch(String what, Call call) {
        eq(what + " throws (1 NoSuchElementException, 2 IllegalArgumentException, 3 another, 0 nothing)", thrown(call), 1);
    }

    void illegal(String what, Call call) {
        eq(what + " throws (1 NoSuchElementException, 2 IllegalArgumentException, 3 another, 0 nothing)", thrown(call), 2);
    }

    private static int thrown(Call call) {
        try {
            call.of();
            return 0;
        } catch (NoSuchElementException e) {
            return 1;
        } catch (IllegalArgumentException e) {
            return e.getClass() == IllegalArgumentException.class ? 2 : 3;
        } catch (RuntimeException e) {
            return 3;
        }
    }

    /** Feeds a text, blanks behind it up to a multiple of twenty. */
    static void feed(SootQueen x, String text) {
        for (int at = 0; at < text.length(); at += 20) {
            int[] five = new int[5];
            for (int i = 0; i < 20; i++) {
                int sign = at + i < text.length() ? text.charAt(at + i) : ' ';
                five[i / 4] = five[i / 4] << 8 | sign;
            }
            x.feed(five[0], five[1], five[2], five[3], five[4]);
        }
    }

    static int table(SootQueen x, String text) {
        feed(x, text);
        return x.table(text.length());
    }

    SootQueen told(String text) {
        SootQueen x = new SootQueen();
        eq("table of '" + text + "'", table(x, text), 0);
        return x;
    }

    /** A fan as figures, the first place's highest, with a 1 ahead of it all. */
    static long fan(SootQueen x, int person) {
        long all = 1;
        for (int i = 0; i < x.fan(person, SootQueen.NONE); i++) {
            all = all * 10 + x.fan(person, i);
        }
        return all;
    }

    void end(String name) {
        System.out.println(name + ": " + done + " checks, " + wrong + " not as due");
        if (wrong > 0 || done == 0) {
            System.exit(1);
        }
    }
}
