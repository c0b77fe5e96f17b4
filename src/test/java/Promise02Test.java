/** Promise 2, feed. */
public final class Promise02Test {
    private static final int BLANKS = 0x20202020;
    private static final Checks c = new Checks();

    public static void main(String[] args) {
        inTheirOrder();
        bytesAbove127();
        atMost600();
        c.end("Promise02Test");
    }

    private static void inTheirOrder() {
        c.about("promise 2: Twenty bytes come behind the tape, of each number the highest first: how many it has");
        SootQueen x = new SootQueen();
        // "peop" "le 2" ";see" "d 98" "76; "
        c.eq("feed", x.feed(0x70656f70, 0x6c652032, 0x3b736565, 0x64203938, 0x37363b20), 20);
        c.eq("count(8)", x.count(8), 20);
        // "pair" "s 7;" "habi" "ts 1" " 9 8"
        c.eq("feed", x.feed(0x70616972, 0x7320373b, 0x68616269, 0x74732031, 0x20392038), 40);
        // " 7 6" " 5 4" ";   "
        c.eq("feed", x.feed(0x20372036, 0x20352034, 0x3b202020, BLANKS, BLANKS), 60);
        c.eq("count(8)", x.count(8), 60);
        c.eq("table", x.table(60), 0);
        c.eq("people", x.count(0), 2);
        c.eq("pairs", x.count(1), 7);
        c.eq("seed", x.count(2), 9876);
        c.eq("the first weight", x.person(1, 2), 9);
        c.eq("the last weight", x.person(1, 7), 4);
        c.eq("feed into the empty tape", x.feed(BLANKS, BLANKS, BLANKS, BLANKS, 0x20202078), 20);
        c.eq("an x at its end", x.table(20), 1);
        c.eq("its place", x.fault(), 19);
    }

    private static void bytesAbove127() {
        c.about("promise 2: bytes 128 to 255 come as they are, and are no TOKEN");
        SootQueen x = new SootQueen();
        for (int i = 0; i < 20; i++) {
            int[] five = {BLANKS, BLANKS, BLANKS, BLANKS, BLANKS};
            int shift = 24 - i % 4 * 8;
            five[i / 4] = BLANKS & ~(255 << shift) | 128 + i * 6 << shift;
            x.feed(five[0], five[1], five[2], five[3], five[4]);
            c.eq("table, byte " + i, x.table(20), 1);
            c.eq("fault(), byte " + i, x.fault(), i);
        }
        x.feed(-1, -1, -1, -1, -1);
        c.eq("20 bytes 255", x.table(20), 1);
        c.eq("the first of them", x.fault(), 0);
        x.feed(Checks.MIN, Checks.MAX, 0, 0, 0);
        c.eq("the least int first", x.table(20), 1);
    }

    private static void atMost600() {
        c.about("promise 2: NONE, and none come, if it would have more than 600");
        SootQueen x = new SootQueen();
        Checks.feed(x, "seed 1234;          ");
        for (int i = 2; i <= 29; i++) {
            c.eq("feed " + i, x.feed(BLANKS, BLANKS, BLANKS, BLANKS, BLANKS), 20 * i);
        }
        c.eq("up to 600", Checks.feed(x, "          pairs 7;  "), 600);
        for (int i = 0; i < 2; i++) {
            c.eq("beyond 600", x.feed(0x78787878, 0x78787878, 0x78787878, 0x78787878, 0x78787878), -1);
            c.eq("none came", x.count(8), 600);
        }
        c.illegal("table(601)", () -> x.table(601));
        c.eq("that isn't STATUS 0", x.count(9), 0);
        c.eq("that isn't STATUS 1", x.count(10), 0);
        c.eq("table(600)", x.table(600), 0);
        c.eq("as was fed first", x.count(2), 1234);
        c.eq("as was fed last", x.count(1), 7);
        c.eq("the tape is empty then", x.count(8), 0);
        c.eq("feed anew", x.feed(BLANKS, BLANKS, BLANKS, BLANKS, BLANKS), 20);
    }
}
