import java.lang.management.ManagementFactory;

/** All calls of a run share one room: what the class makes it uses again. */
public final class RoomTest {
    private static final com.sun.management.ThreadMXBean THREADS =
        (com.sun.management.ThreadMXBean) ManagementFactory.getThreadMXBean();

    public static void main(String[] args) {
        long least = Long.MAX_VALUE;
        // The first rounds also count what the Java machine makes for itself.
        for (int round = 0; round < 5; round++) {
            least = Math.min(least, bytesOfOneRun());
        }
        System.out.println("a run of 512 dear calls makes " + least + " bytes");
        if (least > 400_000) {
            System.out.println("due are 400000 at most");
            System.exit(1);
        }
    }

    private static long bytesOfOneRun() {
        long before = THREADS.getCurrentThreadAllocatedBytes();
        ViewHall x = new ViewHall();
        x.begin(6, 6);
        for (int p = 0; p < 6; p++) {
            x.join(p);
        }
        for (int call = 7; call < 512; call++) {
            if (call % 100 == 0) {
                x.begin(6, 6 + call / 100);
            } else if (call % 100 < 7 && x.about(call % 100 - 1, 0) == 0) {
                x.join(call % 100 - 1);
            } else if (call % 3 == 0) {
                x.send(call % 6, call / 6 % 4, call);
            } else {
                x.go(60, call, call % 5);
            }
        }
        return THREADS.getCurrentThreadAllocatedBytes() - before;
    }
}
