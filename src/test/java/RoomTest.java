import com.sun.management.ThreadMXBean;
import java.lang.management.ManagementFactory;

/** All calls of a run live in one room: a new object takes little of it, its calls nothing. */
public final class RoomTest {
    private static final Due due = new Due("RoomTest");
    // what the machine itself may take aside
    private static final long SLACK = 20000;

    public static void main(String[] args) {
        ThreadMXBean bean = (ThreadMXBean) ManagementFactory.getThreadMXBean();
        if (!bean.isThreadAllocatedMemorySupported() || !bean.isThreadAllocatedMemoryEnabled()) {
            System.out.println("RoomTest: this machine does not count what is made");
            return;
        }
        calls(new MetAgents());
        long begun = bean.getCurrentThreadAllocatedBytes();
        MetAgents x = new MetAgents();
        long made = bean.getCurrentThreadAllocatedBytes();
        for (int i = 0; i < 20; i++) {
            calls(x);
        }
        long called = bean.getCurrentThreadAllocatedBytes();
        due.isTrue("a new object takes " + (made - begun) + " bytes", made - begun < 60000 + SLACK);
        due.isTrue("its calls take " + (called - made) + " bytes", called - made < SLACK);
        due.end();
    }

    private static void calls(MetAgents x) {
        x.preset(2);
        x.rule(4, 0, 5, 5);
        x.unrule(4, 0);
        x.ofRule(0, 0);
        x.tells(3, 1);
        x.agents(3, 3, 0, 0, 0, 0);
        x.agent(0);
        x.reached(2);
        x.answer();
        x.decided();
        x.soonest();
        x.longest();
        x.odds(12, 0);
        x.meet(0, 1);
        x.seed(5);
        x.run(1000);
        x.waits(0, 1);
        x.unfair(3, 1);
        x.in(3);
        x.weight(1, 2);
        x.sum();
        x.breaks();
        x.keepers();
        x.wrong(6, 1, 3);
        x.many(2);
    }
}
