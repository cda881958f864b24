import java.lang.management.ManagementFactory;

/** Calls make nothing new: all rows are made with the object (the room of a run is bounded). */
public final class RoomTest {
    private static final int CALLS = 500;
    /** A thousand elements of eight bytes, far below what 500 calls with a row each would make. */
    private static final long MOST_BYTES = 8000;

    public static void main(String[] args) {
        Check check = new Check("RoomTest");
        var threads = (com.sun.management.ThreadMXBean) ManagementFactory.getThreadMXBean();
        long id = Thread.currentThread().getId();
        GorgeRopes warm = busy();
        long made = threads.getThreadAllocatedBytes(id);
        made = threads.getThreadAllocatedBytes(id) - made;
        useAll(warm, 0);
        GorgeRopes x = busy();
        long before = threads.getThreadAllocatedBytes(id);
        for (int i = 0; i < CALLS; i++) {
            useAll(x, i);
        }
        long bytes = threads.getThreadAllocatedBytes(id) - before - made;
        check.holds(CALLS + " rounds of calls made " + bytes + " bytes", bytes <= MOST_BYTES);
        before = threads.getThreadAllocatedBytes(id);
        new GorgeRopes();
        bytes = threads.getThreadAllocatedBytes(id) - before - made;
        check.holds("an object has " + bytes + " bytes", bytes <= MOST_BYTES);
        check.end();
    }

    private static GorgeRopes busy() {
        GorgeRopes x = Check.gorge("00b910;19b911;28b922;37b933;46b944;55b950;64b960;73b970", "7");
        for (int t = 0; t < 20; t++) {
            x.trip(t % 8, t % 2, t, t % 10, t % 5);
        }
        for (int p = 0; p < 5; p++) {
            x.part(p, 0);
        }
        x.sheet(1, 0, 60);
        return x;
    }

    private static void useAll(GorgeRopes x, int i) {
        x.digest();
        x.sheet(0, i % 3, 60);
        x.write(0);
        x.copy(0, 0, 0, 1, 59);
        x.lay(0, i % 3, 5, i);
        x.get(0, i % 3, 5);
        x.undo();
        x.read(1, 0);
        x.knots(0, 9, 50);
        x.wipe(1);
        x.type(1, '7');
        x.takes(0, 0, 0, 0);
        x.yet(0, 3);
        x.lose(0);
    }
}
