import com.sun.management.ThreadMXBean;
import java.lang.management.ManagementFactory;

/** All calls of a run live in one room: an object is small, and of the calls only group makes anything. */
public final class RoomTest {
    private static final Check CHECK = new Check();
    private static final ThreadMXBean THREADS = (ThreadMXBean) ManagementFactory.getThreadMXBean();
    private static final String TEXT = "s6;w6;i6;s6;w6;i6";

    public static void main(String[] args) {
        // Twice, as the first time Java itself makes what it needs for classes.
        oneObject();
        long made = oneObject();
        CHECK.due("an object and its text take less than 16000 bytes: " + made, made < 16000);
        dearestCalls();
        long more = dearestCalls();
        CHECK.due("the dearest calls make nothing: " + more, more < 1000);
        eightGroupsAgainAndAgain();
        long groups = eightGroupsAgainAndAgain();
        CHECK.due("a group takes less than 100 bytes: " + groups, groups < 8 * 20 * 100 + 1000);
        CHECK.end();
    }

    private static long bytes() {
        return THREADS.getCurrentThreadAllocatedBytes();
    }

    private static long oneObject() {
        long before = bytes();
        Check.cafe(TEXT);
        return bytes() - before;
    }

    private static void tellGroups(CafeTables x) {
        for (int g = 0; g < 8; g++) {
            x.group(g % 3, 1 + g % 6, g, 60, g % 3, g % 2);
        }
    }

    private static long dearestCalls() {
        CafeTables x = Check.cafe(TEXT);
        tellGroups(x);
        long before = bytes();
        for (int k = 0; k < 20; k++) {
            // A way told anew, so that all is reckoned anew.
            x.patience(k);
            x.coin();
            x.taken(200, k % 2);
            x.worth(k % 8);
            x.plan(-1);
            x.bestRule(0);
            x.waiting(0);
            x.mix(24, 0);
            x.till(50, 0);
            x.names(8, 37, 3, 5, 9, 0);
            x.take(37, 3, 5, 9);
            x.sheet(3, k % 3, 40);
            x.cell(3, 39, k % 3);
            x.copy(3, 0, 3, 1, 39);
            x.put(3, 40, 1);
            x.lose(3);
            x.tell(k % 8);
            x.serve(k % 8);
            x.as(k % 8, 2);
            x.many(6);
        }
        return bytes() - before;
    }

    private static long eightGroupsAgainAndAgain() {
        CafeTables x = Check.cafe(TEXT);
        long before = bytes();
        for (int k = 0; k < 20; k++) {
            x.cafe(0, 0, 0, TEXT.length());
            tellGroups(x);
        }
        return bytes() - before;
    }
}
