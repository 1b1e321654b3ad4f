import com.sun.management.ThreadMXBean;
import java.lang.management.ManagementFactory;

/** All calls of one run live in one room: an object is made once, and its calls make nothing more. */
final class RoomTest {
    private static final int CALLS = 512;
    private static final long MOST_BYTES_OF_AN_OBJECT = 2_000_000;
    /** For 512 calls together: what the machine itself may need for them beside the program. */
    private static final long MOST_BYTES_OF_CALLS = 200_000;
    private static final ThreadMXBean ROOM = (ThreadMXBean) ManagementFactory.getThreadMXBean();

    private RoomTest() {
    }

    public static void main(String[] args) {
        aNewObject();
        dueNothing("feed and teach", RoomTest::taughtAnew);
        dueNothing("digest", MaskPlays::digest);
        dueNothing("letterAt", x -> x.letterAt(3, 5));
        dueNothing("isSame", x -> x.isSame(3, 4) ? 1 : 0);
        dueNothing("renamedByStep", x -> x.renamedByStep(5));
        dueNothing("doStep", x -> x.doStep(1) + x.renew(1));
        dueNothing("give", x -> x.give(1, 2) + x.renew(2));
        dueNothing("passEvenings", x -> x.passEvenings(20));
        dueNothing("sizeAfterSteps", x -> x.sizeAfterSteps(1, 40));
        dueNothing("endSame", x -> x.endSame(1, 2) ? 1 : 0);
        dueNothing("sizeAfterEvenings", x -> x.sizeAfterEvenings(1, 20));
        dueNothing("eveningsUntilFinished", x -> x.eveningsUntilFinished(1));
        dueNothing("bestGift", x -> x.bestGift(1));
        dueNothing("meanSize", x -> (long) x.meanSize());
        Dues.end();
    }

    private interface Asked {
        long answer(MaskPlays x);
    }

    private static long taughtAnew(MaskPlays x) {
        for (int n = 0; n < 20; n++) {
            // "actor a;play a is a;", which has an error 2, but no error 1.
            x.feed(0x6163746f, 0x7220613b, 0x706c6179, 0x20612069, 0x7320613b);
        }
        return x.teach();
    }

    private static MaskPlays filled() {
        StringBuilder book = new StringBuilder("actor a; play i is mask x(x); ");
        book.append("play o is [mask x([x x x]) mask x([x x x])]; play p is [mask x([x x]) mask x([x x])]; ");
        book.append("play q is [").append("a ".repeat(60)).append("]; play r is [q i i]; ");
        book.append("play s is mask y([mask x(mask y([x y])) y]); ");
        for (int n = 0; n < 6; n++) {
            book.append("play p").append(n).append(" is [i i i i i i i]; ");
        }
        for (int n = 0; n < 14; n++) {
            book.append("step p").append(n % 6).append("; ");
        }
        book.append("step o; renew o when size o>140 and not same o p or evening/7*7=evening;");
        return Dues.told(book.toString());
    }

    private static long used() {
        return ROOM.getThreadAllocatedBytes(Thread.currentThread().getId());
    }

    private static void aNewObject() {
        new MaskPlays();
        long before = used();
        new MaskPlays();
        long bytes = used() - before;
        Dues.due("bytes of an object: " + bytes, bytes < MOST_BYTES_OF_AN_OBJECT, true);
    }

    private static void dueNothing(String call, Asked asked) {
        MaskPlays x = filled();
        asked.answer(x);
        long before = used();
        for (int n = 0; n < CALLS; n++) {
            asked.answer(x);
        }
        long bytes = used() - before;
        Dues.due(call + ", " + CALLS + " times, bytes: " + bytes, bytes < MOST_BYTES_OF_CALLS, true);
    }
}
