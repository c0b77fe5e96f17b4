import java.lang.management.ManagementFactory;

/**
 * All calls of one run live in one room: an object makes its rows once, and its 512 dearest calls make
 * next to nothing. Counted are the bytes that the machine gave out to this thread.
 */
public final class RoomTest {
    private static final String TEXT = "people 5;pairs 9;seed 12;draws 0 last+1;draws 1 turn;holds 1 0;draws 2 size-1;holds 3 own/2;";

    public static void main(String[] args) {
        Checks c = new Checks();
        c.about("the room");
        calls(new SootQueen(), 40);
        long before = bytes();
        SootQueen x = new SootQueen();
        long made = bytes() - before;
        before = bytes();
        calls(x, 480);
        long used = bytes() - before;
        System.out.println("an object takes " + made + " bytes, 512 calls " + used);
        c.yes("an object takes at most 100000 bytes: " + made, made <= 100000);
        c.yes("its calls take at most 100000 bytes: " + used, used <= 100000);
        c.end("RoomTest");
    }

    private static long bytes() {
        return ((com.sun.management.ThreadMXBean) ManagementFactory.getThreadMXBean()).getCurrentThreadAllocatedBytes();
    }

    /** Any 32 calls for the text and many dear ones. */
    private static void calls(SootQueen x, int many) {
        Checks.table(x, TEXT);
        for (int i = 0; i < many; i++) {
            int p = i % 5;
            switch (i % 12) {
                case 0 -> x.belief(p, -1);
                case 1 -> x.seats(p, 2);
                case 2 -> x.evenings(i, 60, i % 4, i % 8 < 4, -3);
                case 3 -> x.blind(p, 4, 0);
                case 4 -> x.wouldLose(-1);
                case 5 -> x.choose(p, 0);
                case 6 -> x.rank(p);
                case 7 -> x.ends(0);
                case 8 -> x.image();
                case 9 -> x.has(p, true);
                case 10 -> x.restore();
                default -> x.peeped(p, 0);
            }
        }
    }
}
