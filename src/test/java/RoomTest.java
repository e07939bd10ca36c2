import com.sun.management.ThreadMXBean;
import java.lang.management.ManagementFactory;

/** A call makes no objects, so that 512 calls of the dearest kind find room. */
public final class RoomTest {
    private static final int CALLS = 512;
    private static final long ROOM_OF_A_NEW_OBJECT = 60_000;
    private static final long ROOM_OF_ALL_CALLS = 20_000;

    public static void main(String[] args) {
        run(new TypeTrays());
        long start = allocated();
        TypeTrays trays = new TypeTrays();
        long afterNew = allocated();
        run(trays);
        long afterRun = allocated();
        Check.due("room of a new object: " + (afterNew - start), 1,
                () -> afterNew - start < ROOM_OF_A_NEW_OBJECT ? 1 : 0);
        Check.due("room of all calls: " + (afterRun - afterNew), 1,
                () -> afterRun - afterNew < ROOM_OF_ALL_CALLS ? 1 : 0);
        Check.end();
    }

    private static long allocated() {
        ThreadMXBean threads = (ThreadMXBean) ManagementFactory.getThreadMXBean();
        return threads.getThreadAllocatedBytes(Thread.currentThread().getId());
    }

    private static void run(TypeTrays trays) {
        String text = "tray;cut 1 5 5;use 1 3 2;line;use 2 3 1;drop 2 3 1;close;";
        for (int index = 0; index < text.length(); index++) {
            trays.type(text.charAt(index));
        }
        for (int call = text.length(); call < CALLS; call += 4) {
            trays.use(call % 16, 1 + call / 4 % 3, call % 3);
            trays.runCommands();
            trays.undo();
            trays.digest();
        }
    }
}
