import com.sun.management.ThreadMXBean;
import java.lang.management.ManagementFactory;

/** All calls of a run share one room, so no call makes an object or an array. */
public final class RoomTest {
    private static final Check check = new Check("RoomTest");
    private static final ThreadMXBean threads =
        (ThreadMXBean) ManagementFactory.getThreadMXBean();

    public static void main(String[] args) {
        OrbitMailbox warm = new OrbitMailbox();
        use(warm);
        long before = threads.getCurrentThreadAllocatedBytes();
        OrbitMailbox[] mailboxes = {new OrbitMailbox(), new OrbitMailbox(), new OrbitMailbox()};
        long made = (threads.getCurrentThreadAllocatedBytes() - before) / 3;
        check.holds("an object of " + made + " bytes is small", made < 40000);
        before = threads.getCurrentThreadAllocatedBytes();
        for (OrbitMailbox mailbox : mailboxes) {
            use(mailbox);
        }
        made = threads.getCurrentThreadAllocatedBytes() - before;
        check.holds("calls made " + made + " bytes", made < 2000);
        check.end();
    }

    private static void use(OrbitMailbox m) {
        for (int s = 0; s < 5; s++) {
            m.addStation(1 + s, s, 1 + s / 2, s % 3);
            m.setLoss(s, 100 * s);
        }
        for (int round = 0; round < 10; round++) {
            m.store(300, round, 60);
            m.run(3);
            for (int s = 0; s < 5; s++) {
                m.requestDirectory(s);
                m.requestFile(s, round);
                m.receivedByte(s, round, 5);
                m.byteHole(s, round, 1);
                m.timeHole(s, 3);
                m.open(s, round);
                m.withdraw(s - 1);
            }
            m.type('d');
            m.type(':');
            m.type('0');
            m.type(';');
            m.fault();
            m.requestText(0);
            m.clearText();
            m.ticksToComplete(0, round);
            m.ticksToEmpty();
            m.close(0, round);
        }
    }
}
