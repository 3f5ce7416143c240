import java.lang.management.ManagementFactory;

/** All calls of a run live in one room: calls make no objects, whatever they are asked. */
public final class RoomTest {
    private static final int CALLS = 2000;

    public static void main(String[] args) {
        SumColours x = Check.board("3;nnlnsfnolf;..........");
        callAll(x, 0);
        com.sun.management.ThreadMXBean threads =
            (com.sun.management.ThreadMXBean) ManagementFactory.getThreadMXBean();
        long before = threads.getCurrentThreadAllocatedBytes();
        for (int call = 0; call < CALLS; call++) {
            callAll(x, call);
        }
        long made = threads.getCurrentThreadAllocatedBytes() - before;
        System.out.println("bytes made by " + CALLS + " rounds: " + made);
        Check.due("a round makes an object", made >= 16 * CALLS ? 1 : 0, 0);
        Check.end("RoomTest");
    }

    private static void callAll(SumColours x, int call) {
        x.blank();
        x.letter('2');
        x.letter(';');
        x.letter('n');
        x.fault();
        x.board();
        x.number(3, call % 6);
        x.as(2, 1);
        x.way(7, 9);
        if (call < 300) {
            x.paint(1 + call % 10, call % 3);
            x.wipe(1 + call % 7);
        }
        x.be(1, call % 2);
        x.ways(call % 3);
        x.mend();
        x.wins(1);
        x.odds(4, 1, 0);
        x.see(2, 0, true);
        x.forget();
        x.paintings(3, call, 1);
        x.image();
        x.restore();
        x.count(4);
        x.digest();
    }
}
