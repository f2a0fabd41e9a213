import com.sun.management.ThreadMXBean;
import java.lang.management.ManagementFactory;

/**
 * All calls of a run live in one room of 600,000 objects with 7.3 million fields and elements: a new object takes
 * little of it, and some hundred calls of all kinds a small part.
 */
public final class RoomTest {
    private static final long OBJECT_LIMIT = 100_000;
    private static final long CALLS_LIMIT = 1_000_000;

    public static void main(String[] args) {
        ThreadMXBean room = (ThreadMXBean) ManagementFactory.getThreadMXBean();
        useAll(new AliasStreams());
        long before = room.getCurrentThreadAllocatedBytes();
        AliasStreams x = new AliasStreams();
        long made = room.getCurrentThreadAllocatedBytes();
        useAll(x);
        long used = room.getCurrentThreadAllocatedBytes();
        Check.same("a new object's room: " + (made - before), Boolean.toString(made - before <= OBJECT_LIMIT), "true");
        Check.same("the calls' room: " + (used - made), Boolean.toString(used - made <= CALLS_LIMIT), "true");
        Check.finish();
    }

    private static void useAll(AliasStreams x) {
        String text = "A3m010203m990101m010101:ab1ab2cc0aabbcc1ababab";
        for (int i = 0; i < text.length(); i++) {
            x.append(text.charAt(i));
        }
        x.errorPosition();
        x.load();
        for (int times = 0; times < 12; times++) {
            x.encode();
            x.setDigit(0, times);
            x.setHead(0, 600 + times);
            x.setPlan(0, 1);
            x.setCount(0, 0, 3 + times);
            x.remove(0);
            x.insert(0, 1);
            x.save(0);
            x.about(6);
            x.symbol(0, 0, 1);
            x.bucket(0, 0, 1);
            x.slot(0, 0, 1);
            x.item(0);
            x.tape(2, 0);
            x.taken(0, 0);
            x.failure();
            x.unfit();
            x.digitsWith(1);
            x.product(0, 0, 12);
            x.bestModel(0, 12);
            x.difference();
            x.effect(0, 1, 0);
            x.runScript(4, 3000_4000_3000_7001L);
            x.simulate(times, 40);
            x.undo();
            x.restore(0);
            x.encode();
            x.decode();
        }
    }
}
