/**
 * Promise 3, table: the faults of a text, and promise 4, their places. In these texts the mark ^ stands
 * at the place that is due, and isn't fed.
 */
public final class Promise03FaultsTest {
    private static final String SIX_NOTS = "not not not not not not ";
    private static final Checks c = new Checks();

    public static void main(String[] args) {
        noToken();
        cannotStandInALine();
        cannotStandInAnExpression();
        endsTooSoon();
        tooMuch();
        personToldOf();
        withinSixOthers();
        seventhNot();
        noValue();
        noPerson();
        noMoreCards();
        second();
        cardsAlone();
        firstAlongTheText();
        ofOneTokenTheLeast();
        c.end("Promise03FaultsTest");
    }

    private static void noToken() {
        c.about("promise 3, FAULT 1: a TOKEN that .. is none");
        for (int b = 0; b < 256; b++) {
            char sign = (char) b;
            SootQueen x = new SootQueen();
            boolean blank = b == 32 || b == 10;
            c.eq("table of the byte " + b, Checks.table(x, "" + sign), blank ? 0 : 1);
            c.eq("its place", x.fault(), blank ? -1 : 0);
            boolean token = ";()+-*/<=".indexOf(sign) >= 0 || sign >= 'a' && sign <= 'z' || sign >= '0' && sign <= '9';
            if (!blank && !token) {
                c.eq("where a PART must stand: " + b, Checks.table(x, "draws 0 " + sign + "1;"), 1);
                c.eq("its place", x.fault(), 8);
                c.eq("behind a PART: " + b, Checks.table(x, "draws 0 1" + sign + "1;"), 1);
                c.eq("its place", x.fault(), 9);
                c.eq("where a CARD may stand: " + b, Checks.table(x, "fan 0 1 " + sign + ";"), 1);
                c.eq("its place", x.fault(), 8);
                c.eq("where a NUMBER must stand: " + b, Checks.table(x, "seed " + sign + "1;"), 1);
                c.eq("its place", x.fault(), 5);
            }
        }
    }

    private static void cannotStandInALine() {
        c.about("promise 3, FAULT 1: a TOKEN that can't stand there");
        String[] texts = {"^;", "^3;", "^queen;", "^size;", "^(;", "^not 1;", "^People 3;", "people 3;^;", "people 3;^3;",
            "people 3;\n ^);", "people ^;", "people ^x;", "people ^people 3;", "people ^-3;", "people ^(3);",
            "people 3 ^pairs 3;", "pairs ^queen;", "pairs 3 ^+1;", "seed ^;", "seed ^size;",
            "seed 1^);", "fan ^;", "fan ^queen;", "fan ^(0) 1;", "fan 0 ^size;", "fan 0 ^-1;", "fan 0 1 ^(",
            "fan 0 1 ^fan 1;", "fan 0 queen ^queens;", "draws ^size;", "draws ^;", "draws 0 ^;", "draws ^-0 1;", "holds ^;",
            "holds 0 ^+1;", "habits ^;", "habits 0 ^;", "habits 0 ^size 1 1 1 1 1;", "habits 0 1 2 3 4 5 ^;",
            "habits 0 1 2 3 ^-4 5 6;", "habits 0 1 2 3 4 5 6 ^7;", "habits 0 1 2 3 4 5 6 ^queen;"};
        for (String text : texts) {
            c.bad(1, text);
        }
    }

    private static void cannotStandInAnExpression() {
        c.about("promise 3, FAULT 1: a TOKEN that can't stand there, in an EXPR");
        String[] parts = {"^-1", "^+1", "^*1", "^<1", "^=1", "^)", "^;", "(^)", "1+^+1", "1+^;", "1*^)", "1/^*2", "1<^=2", "1 and ^;",
            "1 or ^)", "not ^;", "not ^)", "not ^-1", "(^-1)", "(1+^)"};
        String[] behind = {"1 ^2", "1 ^size", "size ^1", "1 ^12345", "1 ^not 2", "1 ^(2)", "(1) ^(2)", "(1)^2", "(1^;", "((1)^;", "1 ^queen",
            "1 ^cards", "1<2^<3", "1<2^=3", "1=2^<3", "1=2^=3", "1<2+1^=3", "not 1=2^=3",
            "(1<2^<3)", "1 and 1<2^<3", "1<2 and 2<3^<4"};
        for (String text : parts) {
            c.bad(1, "draws 0 " + text + ";");
            c.bad(1, "holds 2 " + text + ";");
        }
        for (String text : behind) {
            c.bad(1, "draws 0 " + text + ";");
            c.bad(1, "holds 2 (" + text + ");");
        }
        c.bad(1, "draws 0 1^);");
        c.bad(1, "draws 0 (1)^);");
        c.bad(1, "holds 2 ((1))^);");
        c.about("promise 3: a test may be a side of one in parentheses, and stand on each side of 'and', 'or'");
        c.told("draws 0 (1<2)<3;draws 1 1<(2<3);holds 0 1<2 and 2=3 or not 3<4 and 4=5;holds 1 (1<2)=(2<3);");
        c.told("draws 0 not 1<2 and not 2<3;draws 1 (1=2 or 2=3)+1<2;");
    }

    private static void endsTooSoon() {
        c.about("promise 3, FAULT 1: (the text's length where it ends too soon)");
        String[] texts = {"people^", "people ^", "people 3^", "people 3 \n ^", "pairs^", "pairs 3^", "seed ^", "seed 7^", "fan^",
            "fan 0^", "fan 0 ^", "fan 0 1^", "fan 0 1 queen ^", "draws^", "draws 0^", "draws 0 ^", "draws 0 1^", "draws 0 1+^",
            "draws 0 1*^", "draws 0 (^", "draws 0 (1^", "draws 0 (1)^", "draws 0 not^", "draws 0 not ^", "draws 0 1<^",
            "draws 0 1 and^", "draws 0 ((((((^", "draws 0 (((((1^", "holds^", "holds 0^", "holds 0 size ^", "habits^", "habits 0^",
            "habits 0 1 2 3 4 5^", "habits 0 1 2 3 4 5 6 ^", "seed 1;people 3^", "fan 0 1;fan 1 1^"};
        for (String text : texts) {
            c.bad(1, text);
        }
    }

    private static void tooMuch() {
        c.about("promise 3, FAULT 2: a NUMBER of 5 digits or more");
        String[] texts = {"people ^00003;", "people ^12345;", "people ^99999999999999999999;", "pairs ^00001;", "seed ^00000;",
            "seed ^10000;", "fan ^00000 queen;", "fan 0 ^00001;", "fan 0 1 ^12345;", "draws ^00000 1;", "holds ^00000 1;",
            "habits ^00000 1 1 1 1 1 1;", "habits 0 ^00001 1 1 1 1 1;", "habits 0 1 1 1 1 1 ^00001;", "draws 0 ^00000;",
            "draws 0 ^12345;", "holds 1 1+^10000;", "draws 0 (1<^00001);", "draws 0 not ^00001;", "draws 0 ^4294967296;",
            "seed 9999;people ^10000;"};
        for (String text : texts) {
            c.bad(2, text);
        }
        c.told("draws 0 9999;holds 0 0000+0001;seed 9999;");
        c.about("promise 3, FAULT 2: (not in an EXPR) not as told");
        String[] others = {"people ^0;", "people ^1;", "people ^7;", "people ^9999;", "pairs ^0;", "pairs ^10;", "pairs ^9999;",
            "habits 0 ^100 1 1 1 1 1;", "habits 2 1 1 1 1 1 ^100;", "habits 0 1 1 ^9999 1 1 1;"};
        for (String text : others) {
            c.bad(2, text);
        }
        c.told("people 6;pairs 9;habits 5 99 99 99 99 99 99;draws 0 100;");
        c.told("people 2;pairs 1;habits 1 0 0 0 0 0 0;");
        c.about("promise 3, FAULT 2: (a CARD above PAIRS; ..)");
        String[] cards = {"fan 0 ^6;", "fan 0 1 5 ^6;", "pairs 1;fan 0 ^2;", "pairs 8;fan 0 8 ^9;", "pairs 9;fan 0 9 ^10;",
            "fan 0 ^9999;", "fan 0 ^0;", "pairs 9;fan 0 1 ^0000;"};
        for (String text : cards) {
            c.bad(2, text);
        }
        c.told("pairs 9;fan 0 9 1;fan 1 1 9 queen;");
        c.told("fan 0 5 queen;fan 1 5;");
    }

    private static void personToldOf() {
        c.about("promise 3, FAULT 2: 'people', 'pairs' once some LINE told of a PERSON");
        for (String line : new String[] {"fan 1;", "draws 0 1;", "holds 2 size;", "habits 0 1 2 3 4 5 6;"}) {
            c.bad(2, line + "^people 3;");
            c.bad(2, line + "^pairs 5;");
            c.bad(2, "people 3;pairs 5;" + line + "^people 3;");
            c.bad(2, "seed 1;" + line + "^pairs;");
            c.bad(1, line + "seed ^;");
        }
        SootQueen seed = c.told("draws 0 1;seed 77;");
        c.eq("'seed' may come behind it", seed.count(2), 77);
        SootQueen before = c.told("seed 1;pairs 6;people 4;draws 3 1;");
        c.eq("and 'people' ahead of it", before.count(0), 4);
    }

    private static void withinSixOthers() {
        c.about("promise 3, FAULT 2: the first TOKEN of an EXPR within 6 others (a NUMBER, any word, a parenthesis)");
        for (String first : new String[] {"1", "12345", "size", "cards", "queen", "not 1", "or", "and 1", "people", "(1)", "((1)"}) {
            c.bad(2, "draws 0 ((((((^" + first + "))))));");
            c.bad(2, "holds 1 1+((((((^" + first + "))))));");
            c.bad(2, "draws 0 (1+(1+(1+(1+(1+(^" + first + "))))));");
            c.bad(2, "draws 0 (((((1)))))+((((((^" + first + "))))));");
            c.bad(2, "draws 0 not (not (not (not (not (not (^" + first + "))))));");
        }
        c.bad(2, "draws 0 ((((((^((((((1))))))))))));");
        c.about("promise 3, FAULT 1: what can't be the first TOKEN of an EXPR within 6 others either");
        for (String first : new String[] {")", "+1", ";", "<", "?", ""}) {
            c.bad(1, "draws 0 ((((((^" + first);
        }
        c.about("promise 3: an EXPR within 5 others may stand, as often as one likes");
        c.told("draws 0 (((((1)))));");
        c.told("draws 0 (((((1)))))+(((((size)))))*((((1)+(2))+(3))+(not 1));"
            + "holds 0 not (((((not 1 or card)))));");
        c.told("draws 0 (((((1+2*3<4 and 5)))))=(((((1)))));");
    }

    private static void seventhNot() {
        c.about("promise 3, FAULT 2: the seventh 'not' side by side");
        c.bad(2, "draws 0 " + SIX_NOTS + "^not 1;");
        c.bad(2, "draws 0 " + SIX_NOTS + "^not not 1;");
        c.bad(2, "draws 0 " + SIX_NOTS + "^not;");
        c.bad(2, "holds 2 (" + SIX_NOTS + "^not 1);");
        c.bad(2, "draws 0 1 and " + SIX_NOTS + "^not 1;");
        c.bad(2, "draws 0 1 or " + SIX_NOTS + "^not 1;");
        c.bad(2, "draws 0 not (" + SIX_NOTS + "^not 1);");
        c.bad(2, "draws 0 " + SIX_NOTS + "1 and " + SIX_NOTS + "^not 1;");
        c.about("promise 3: six 'not' side by side may stand");
        c.told("draws 0 " + SIX_NOTS + "1;");
        c.told("draws 0 " + SIX_NOTS + "1 and " + SIX_NOTS + "0 or " + SIX_NOTS + "0;");
        c.told("draws 0 " + SIX_NOTS + "(" + SIX_NOTS + "1);");
        c.told("draws 0 " + SIX_NOTS + "(" + SIX_NOTS + "(" + SIX_NOTS + "1<2));");
    }

    private static void noValue() {
        c.about("promise 3, FAULT 3: any word where a PART must stand that is no VALUE");
        for (String word : new String[] {"x", "siz", "sizes", "cards", "owns", "turns", "mee", "lasts", "queen", "people", "pairs",
            "seed", "fan", "draws", "holds", "habits", "or", "and", "abcdefghijklmnopqrstuvwxyz"}) {
            c.bad(3, "draws 0 ^" + word + ";");
            c.bad(3, "holds 1 ^" + word + " 1;");
            c.bad(3, "draws 0 1+^" + word + ";");
            c.bad(3, "draws 0 2*(^" + word + ");");
            c.bad(3, "draws 0 1<^" + word + ";");
            c.bad(3, "draws 0 1 and ^" + word + ";");
            c.bad(3, "draws 0 1 or not ^" + word + ";");
            c.bad(3, "draws 0 " + SIX_NOTS + "^" + word + ";");
            c.bad(3, "draws 0 (((((^" + word + ")))));");
        }
        c.about("promise 3, FAULT 3: 'not' where a PART, no NOT, must stand");
        for (String ahead : new String[] {"1+", "1-", "1*", "1/", "1<", "1=", "(1)+", "not 1+", "1 and 1<"}) {
            c.bad(3, "draws 0 " + ahead + "^not 1;");
        }
        c.bad(3, "draws 0 " + SIX_NOTS + "1+^not 1;");
        c.about("promise 3: each VALUE may stand there");
        c.told("draws 0 size+own+turn+me+last+card;holds 0 size+own+turn+me+last+card;");
    }

    private static void noPerson() {
        c.about("promise 3, FAULT 3: a PERSON that there isn't");
        for (int people = 2; people <= 6; people++) {
            String told = "people " + people + ";";
            int last = people - 1;
            c.bad(3, told + "fan ^" + people + " queen;");
            c.bad(3, told + "draws ^" + people + " 1;");
            c.bad(3, told + "holds ^" + people + " 1;");
            c.bad(3, told + "habits ^" + people + " 1 1 1 1 1 1;");
            c.bad(3, told + "fan ^9999;");
            c.told(told + "fan " + last + " queen;draws " + last + " 1;holds " + last + " 1;habits " + last + " 1 1 1 1 1 1;");
        }
        c.bad(3, "fan ^3 queen;");
        c.bad(3, "draws ^0003 1;");
        c.bad(3, "draws ^3;");
    }

    private static void noMoreCards() {
        c.about("promise 3, FAULT 4: a CARD that that FAN has already");
        c.bad(4, "fan 0 1 ^1;");
        c.bad(4, "fan 0 1 ^01;");
        c.bad(4, "fan 0 3 2 1 ^3 queen;");
        c.bad(4, "fan 0 queen ^queen;");
        c.bad(4, "fan 0 queen 1;fan 1 1 2 ^1;");
        c.bad(4, "pairs 9;fan 0 1 2 3 4 5 6 7 8 9 ^9;");
        c.bad(4, "pairs 9;fan 0 queen 1 2 3 4 5 6 7 8 9 ^queen;");
        c.about("promise 3, FAULT 4: or of which there are no more (two of a VALUE, one QUEEN)");
        c.bad(4, "fan 0 1;fan 1 1;fan 2 ^1;");
        c.bad(4, "fan 2 1;fan 1 2 1;fan 0 2 ^1;");
        c.bad(4, "pairs 9;fan 2 9;fan 1 9;fan 0 queen ^9;");
        c.bad(4, "fan 0 queen;fan 1 ^queen;");
        c.bad(4, "people 6;fan 0 1 queen;fan 5 1 ^queen;");
        c.told("fan 0 1 2;fan 1 1 queen;fan 2 2;");
    }

    private static void second() {
        c.about("promise 3, FAULT 5: a second 'people', 'pairs', 'seed'");
        c.bad(5, "people 3;^people 3;");
        c.bad(5, "people 3;pairs 3;^people;");
        c.bad(5, "pairs 3;^pairs 4;");
        c.bad(5, "pairs 3;people 2;seed 1;^pairs 3;");
        c.bad(5, "seed 0;^seed 0;");
        c.bad(5, "seed 1;draws 0 1;^seed 1;");
        c.told("seed 1;people 3;pairs 3;");
        c.about("promise 3, FAULT 5: of a PERSON (at that NUMBER) a second 'fan', 'draws', 'holds', 'habits'");
        for (int person = 0; person < 3; person++) {
            c.bad(5, "fan " + person + ";fan ^" + person + ";");
            c.bad(5, "fan " + person + " 1;fan ^0" + person + " 2;");
            c.bad(5, "draws " + person + " 1;holds " + person + " 1;draws ^" + person + " 1;");
            c.bad(5, "holds " + person + " 1;draws " + person + " 1;holds ^" + person + ";");
            c.bad(5, "habits " + person + " 1 1 1 1 1 1;habits ^" + person + " 1 1 1 1 1 1;");
        }
        c.about("promise 3: one of each for each PERSON may stand");
        StringBuilder all = new StringBuilder("people 6;");
        for (int person = 5; person >= 0; person--) {
            all.append("fan ").append(person).append(person == 4 ? " queen;" : ";");
            all.append("draws ").append(person).append(" 1;holds ").append(person).append(" 1;");
            all.append("habits ").append(person).append(" 1 1 1 1 1 1;");
        }
        c.told(all.toString());
    }

    private static void cardsAlone() {
        c.about("promise 3, FAULT 6: 'fan' was told, but of some VALUE one CARD alone (once all is told: the text's length)");
        c.bad(6, "fan 0 1;^");
        c.bad(6, "fan 0 queen 1;^");
        c.bad(6, "fan 0 1 queen;fan 1 1 2;  \n^");
        c.bad(6, "pairs 9;fan 0 1 9 queen;fan 1 1;^");
        c.bad(6, "fan 0 1 queen;seed 1;draws 0 0;^");
        c.about("promise 3, FAULT 6: or not the QUEEN");
        c.bad(6, "fan 0;^");
        c.bad(6, "fan 0;fan 1;fan 2;^");
        c.bad(6, "fan 0 1;fan 1 1;^");
        c.bad(6, "fan 0 5;fan 2 5; ^");
        SootQueen x = new SootQueen();
        Checks.feed(x, "fan 0;                                  ");
        c.eq("the text's length, not the tape's", x.table(6), 6);
        c.eq("fault()", x.fault(), 6);
        c.about("promise 3: of a VALUE none at all may be told");
        c.told("fan 0 queen;");
        c.told("fan 0 queen 2;fan 1 2;");
        c.told("draws 0 1;holds 0 1;habits 0 1 1 1 1 1 1;");
    }

    private static void firstAlongTheText() {
        c.about("promise 3: FAULTS, the first along the text, at a TOKEN's first byte");
        c.bad(2, "people ^9;pairs 99;");
        c.bad(5, "seed 1;^seed x;");
        c.bad(2, "seed     ^12345;x");
        c.bad(3, "draws 0 (   ^queen or 12345);");
        c.bad(1, "fan 0 1 ^x;fan 0 1;");
        c.bad(4, "fan 0 1 ^1;fan 3 1;");
        c.bad(1, "fan 0 1;seed ^;");
        c.bad(1, "people\n\n\n^x3;");
        c.bad(2, "habits 0 ^100 1 1 1 1;");
        c.bad(1, "habits 0 1 1 1 1 1 ^;people 3;");
    }

    private static void ofOneTokenTheLeast() {
        c.about("promise 3: FAULTS .. of one TOKEN the least");
        c.bad(1, "people 3 ^12345;");
        c.bad(1, "draws 0 1 ^12345;");
        c.bad(1, "draws 0 1 ^cards;");
        c.bad(2, "people 3;draws 0 1;^people 3;");
        c.bad(2, "pairs 3;fan 0;^pairs 3;");
        c.bad(2, "fan ^99999 1;");
        c.bad(2, "fan 0;fan ^00000;");
        c.bad(2, "draws 0 ((((((^cards))))));");
        c.bad(2, "draws 0 ((((((^12345))))));");
        c.bad(2, "fan 0 1 ^00001;");
    }
}
