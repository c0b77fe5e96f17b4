/** Promise 8, draw: the card, what goes where, and whose turn it is then. */
public final class Promise08Test {
    /** Person 0 draws the queen, 4 or 5 at places 0, 1, 2 and pairs behind these. */
    private static final String HOLDS = "fan 0 1 2 3;fan 1 queen 4 5 1 2 3;fan 2 4 5;";
    private static final Checks c = new Checks();

    public static void main(String[] args) {
        theCard();
        refused();
        laidAside();
        held();
        heldBy();
        eachByHisOwn();
        nextTurn();
        twoLeft();
        c.end("Promise08Test");
    }

    private static void theCard() {
        c.about("promise 8: A DRAW at a place, held by the RULE: the CARD, and 100 if it was laid aside with another one");
        int[] due = {0, 4, 5, 101, 102, 103};
        String[] own = {"1 2 3 queen", "1 2 3 4", "1 2 3 5", "2 3", "1 3", "1 2"};
        String[] theirs = {"4 5 1 2 3", "queen 5 1 2 3", "queen 4 1 2 3", "queen 4 5 2 3", "queen 4 5 1 3", "queen 4 5 1 2"};
        for (int place = 0; place < 6; place++) {
            SootQueen x = c.told(HOLDS);
            c.eq("draw(" + place + ")", x.draw(place), due[place]);
            c.fans(x, own[place], theirs[place], "4 5");
            c.eq("turn", x.count(3), 1);
            c.eq("done", x.count(4), 1);
            c.eq("who has her", x.count(6), place == 0 ? 0 : 1);
        }
    }

    private static void refused() {
        c.about("promise 8: NONE (STATUS 1): it is OVER, no such place");
        SootQueen x = c.told(HOLDS);
        int[] places = {-1, -2, 6, 7, 10, 100, Checks.MIN, Checks.MAX};
        for (int i = 0; i < places.length; i++) {
            c.eq("draw(" + places[i] + ")", x.draw(places[i]), -1);
            c.eq("STATUS 1", x.count(10), i + 1);
        }
        c.fans(x, "1 2 3", "queen 4 5 1 2 3", "4 5");
        c.eq("nothing was drawn", x.count(4), 0);
        c.eq("turn", x.count(3), 0);
        c.eq("the last place there is", x.draw(5), 103);
        c.eq("1 draws from two cards", x.draw(2), -1);
        c.eq("STATUS 1", x.count(10), 9);
        SootQueen over = c.told("fan 1 queen;");
        c.eq("over", over.draw(0), -1);
        c.eq("over", over.draw(-1), -1);
        c.eq("STATUS 1", over.count(10), 2);
        c.eq("fan 1", over.fan(1, -1), 1);
        SootQueen end = c.told("people 2;pairs 1;fan 0 1;fan 1 queen 1;");
        c.eq("the last draw", end.draw(1), 101);
        c.eq("over then", end.draw(0), -1);
        c.fans(end, "", "queen");
        c.eq("draws", end.count(4), 1);
    }

    private static void laidAside() {
        c.about("promise 8: if he has one of its VALUE both are laid aside");
        String[] own = {"1 2 3 4 5", "5 4 3 2 1", "3 1 5 2 4"};
        for (String cards : own) {
            for (int value = 1; value <= 5; value++) {
                SootQueen x = c.told("fan 0 " + cards + ";fan 1 1 2 3 4 5 queen;holds 0 0;");
                c.eq("draw(" + (value - 1) + ")", x.draw(value - 1), 100 + value);
                String left = (cards + " ").replace(value + " ", "").strip();
                c.fans(x, left, "1 2 3 4 5 queen".replace(value + " ", ""), "");
            }
        }
        SootQueen queen = c.told("fan 0 1;fan 1 queen 1;");
        c.eq("the queen has no other", queen.draw(0), 0);
        c.fans(queen, "1 queen", "1", "");
    }

    private static void by(String rule, int place, String due) {
        SootQueen x = c.told(HOLDS + "holds 0 " + rule + ";");
        x.draw(place);
        c.same("fan 0 by 'holds 0 " + rule + "', drawn at " + place, Checks.fan(x, 0), due);
    }

    private static void held() {
        c.about("promise 8: ahead of the CARD at a place, or behind all (his own size and 1; 0 on, also of what is below 0)");
        by("0", 1, "4 1 2 3");
        by("1", 1, "1 4 2 3");
        by("2", 1, "1 2 4 3");
        by("3", 1, "1 2 3 4");
        by("4", 1, "4 1 2 3");
        by("5", 1, "1 4 2 3");
        by("9999", 1, "1 2 3 4");
        by("0-1", 1, "1 2 3 4");
        by("0-2", 1, "1 2 4 3");
        by("0-4", 1, "4 1 2 3");
        by("0-5", 1, "1 2 3 4");
        by("4096*4096*128", 1, "4 1 2 3");
        by("4096*4096*128-1", 1, "1 2 3 4");
        c.about("promise 8: Without a RULE one .. holds by 'size'");
        SootQueen x = c.told(HOLDS);
        x.draw(0);
        c.same("behind all", Checks.fan(x, 0), "1 2 3 queen");
        x.draw(0);
        c.same("1 pairs", Checks.fan(x, 1), "5 1 2 3");
        x.draw(2);
        c.same("2 too, behind all", Checks.fan(x, 2), "5 3");
        c.about("promise 8: a FAN of ten, by 'holds'");
        SootQueen full = c.told(Checks.FULL + "holds 0 4;");
        full.draw(0);
        c.fans(full, "1 2 3 4 queen 5 6 7 8 9", "1 2 3 4 5 6 7 8 9");
    }

    private static void heldBy() {
        c.about("promise 8: 'size', 'own' in 'holds' of his own, without the CARD");
        by("size", 1, "1 2 3 4");
        by("size-1", 1, "1 2 4 3");
        by("own", 1, "1 2 3 4");
        by("own-2", 1, "1 4 2 3");
        c.about("promise 8: 'card' (in 'holds' the CARD)");
        by("card", 0, "queen 1 2 3");
        by("card", 1, "4 1 2 3");
        by("card", 2, "1 5 2 3");
        by("card-2", 1, "1 2 4 3");
        c.about("promise 8: 'last' (the place at which he drew last, in 'holds' just now)");
        by("last", 0, "queen 1 2 3");
        by("last", 1, "1 4 2 3");
        by("last", 2, "1 2 5 3");
        c.about("promise 8: 'me', 'turn' (DRAWS that were done) in 'holds'");
        SootQueen x = c.told("people 6;pairs 9;fan 0 1;fan 1 2 3;fan 2 queen 4 5 6 7;fan 3 8 9 1 2 3;fan 4 4 5 6 7;fan 5 8 9;"
            + "holds 1 me;holds 2 turn;holds 3 me+turn;holds 4 turn=4;");
        c.eq("draw(1)", x.draw(1), 3);
        c.eq("1 draws 4", x.draw(1), 4);
        c.same("at 1", Checks.fan(x, 1), "2 4");
        c.eq("2 draws 9", x.draw(1), 9);
        c.same("two draws were done", Checks.fan(x, 2), "queen 5 9 6 7");
        c.eq("3 draws 7", x.draw(3), 7);
        c.same("at 6 MOD 5", Checks.fan(x, 3), "8 7 1 2 3");
        c.eq("4 draws 9", x.draw(1), 9);
        c.same("four draws were done: at 1", Checks.fan(x, 4), "4 9 5 6");
    }

    private static void eachByHisOwn() {
        c.about("promise 8: Each of the PEOPLE has a RULE by which he draws, one by which he holds");
        StringBuilder text = new StringBuilder("people 6;pairs 9;fan 0 1 2 3;fan 1 4 5 6;fan 2 7 8 9;fan 3 1 2 3;fan 4 4 5 6;"
            + "fan 5 7 8 9 queen;");
        int[] draws = {1, 0, 1, 2, 2, 0};
        int[] holds = {2, 0, 3, 1, 0, 2};
        for (int person = 0; person < 6; person++) {
            text.append("draws ").append(person).append(' ').append(draws[person]).append(';');
            text.append("holds ").append(person).append(' ').append(holds[person]).append(';');
        }
        SootQueen x = c.told(text.toString());
        for (int person = 0; person < 6; person++) {
            c.eq("drawn by the rule of " + person, x.person(person, 1), draws[person]);
        }
        c.eq("play(6)", x.play(6), 6);
        // 5 goes to 0, 7 to 1, 2 to 2 (at 3 MOD 3), 6 to 3, 9 to 4 and 1 to 5.
        c.fans(x, "2 5 3", "7 4 6", "2 8 9", "1 6 3", "9 4 5", "7 8 1 queen");
        SootQueen last = c.told("people 6;fan 5 1 2;fan 0 queen 1 2;holds 5 0;draws 5 0;draws 0 0;holds 0 1;");
        c.eq("0 pairs", last.play(1), 1);
        c.fans(last, "queen 2", "", "", "", "", "2");
        c.eq("5 draws her", last.play(1), 1);
        c.fans(last, "2", "", "", "", "", "queen 2");
    }

    private static void nextTurn() {
        c.about("promise 8: Then it is the TURN of THE NEXT of him");
        SootQueen x = c.told(Checks.FOUR);
        int[] places = {1, 1, 1, 1, 0};
        int[] turns = {2, 3, 0, 2, -1};
        int[] cards = {3, 3, 102, 101, 103};
        for (int i = 0; i < 5; i++) {
            c.eq("draw " + i, x.draw(places[i]), cards[i]);
            c.eq("turn behind it", x.count(3), turns[i]);
        }
        c.eq("has lost", x.count(7), 2);
        c.about("promise 8: the one who was drawn from is OUT then, so it is the turn of who comes behind him");
        SootQueen from = c.told("people 4;fan 0 1 2;fan 1 3;fan 2 queen 3 1;fan 3 2;");
        c.eq("his last card", from.draw(0), 3);
        c.eq("1 is out", from.person(1, 0), -1);
        c.eq("turn", from.count(3), 2);
        c.about("promise 8: who draws is OUT then himself");
        SootQueen own = c.told("people 4;fan 0 1;fan 1 1 3;fan 2 queen 3 2;fan 3 2;");
        c.eq("his last pair", own.draw(0), 101);
        c.eq("0 is out", own.person(0, 1), -1);
        c.eq("turn", own.count(3), 1);
        c.about("promise 8: both are OUT then");
        SootQueen both = c.told("people 4;fan 0 1;fan 1 1;fan 2 queen 2;fan 3 2;");
        c.eq("the last of both", both.draw(0), 101);
        c.eq("turn", both.count(3), 2);
        c.eq("2 draws from 3", both.person(2, 0), 3);
        c.eq("3 draws from 2, round the table", both.person(3, 0), 2);
        c.about("promise 8: round the table");
        SootQueen round = c.told("people 6;fan 1 1 queen;fan 3 2 3;fan 5 1 2 3;");
        c.eq("turn", round.count(3), 1);
        c.eq("1 draws from 3", round.draw(0), 2);
        c.eq("turn", round.count(3), 3);
        c.eq("3 draws from 5", round.draw(0), 1);
        c.eq("turn", round.count(3), 5);
        c.eq("5 draws from 1", round.draw(2), 102);
        c.eq("turn", round.count(3), 1);
        c.fans(round, "", "1 queen", "", "3 1", "", "3");
    }

    private static void twoLeft() {
        c.about("promise 8: of two left each draws from the other");
        SootQueen x = c.told(Checks.EVER);
        for (int i = 0; i < 20; i++) {
            c.eq("turn", x.count(3), i % 2);
            c.eq("the queen", x.draw(1), 0);
            c.eq("who has her", x.count(6), i % 2);
        }
        c.eq("a pair", x.draw(0), 101);
        c.eq("1 has lost", x.count(7), 1);
    }
}
