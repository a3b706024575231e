import com.sun.management.ThreadMXBean;
import java.lang.management.ManagementFactory;

/** All calls of a run live in one room: an object is small, and asking it makes nothing. */
public final class RoomTest {
    private static final String WEEK = "sit 1 0;silent 2;lend 1 2 9;hour;".repeat(4);

    public static void main(String[] args) {
        if (!(ManagementFactory.getThreadMXBean() instanceof ThreadMXBean bean) || !bean.isThreadAllocatedMemorySupported()) {
            System.out.println("RoomTest: this machine does not count what is made");
            return;
        }
        askingMakesNothing(bean);
        objectsAreSmall(bean);
        Check.finish("RoomTest");
    }

    private static void askingMakesNothing(ThreadMXBean bean) {
        KeptCompany x = Check.with(Check.FOUR + "person 9 9;person 1 90;owes 5 4 9;", Check.WEEK, WEEK);
        Check.tell(x, Check.LOG, -1, "");
        for (int k = 0; k < 3; k++) {
            x.image(k);
        }
        askAll(x);
        long before = bean.getCurrentThreadAllocatedBytes();
        for (int i = 0; i < 200; i++) {
            askAll(x);
        }
        long made = bean.getCurrentThreadAllocatedBytes() - before;
        Check.due("bytes made by 200 rounds of all calls, " + made + ", are few", made < 20000, true);
    }

    /** Some 1,000 fields and elements for what is told, as many for the work, and what is told again for each image. */
    private static void objectsAreSmall(ThreadMXBean bean) {
        KeptCompany[] all = new KeptCompany[100];
        long before = bean.getCurrentThreadAllocatedBytes();
        for (int i = 0; i < all.length; i++) {
            all[i] = new KeptCompany();
            all[i].image(0);
            all[i].image(1);
            all[i].image(2);
        }
        long made = bean.getCurrentThreadAllocatedBytes() - before;
        Check.due("bytes made by 100 objects with all images, " + made + ", are few", made < 100 * 40000, true);
    }

    private static void askAll(KeptCompany x) {
        x.feed(0x20202020, 0x20202020, 0x20202020, 0x20202020, 0x20202020);
        x.end(3);
        x.text(0, 1);
        x.text(1, 1);
        x.text(2, 1);
        x.fault(0);
        x.count(0);
        for (int k = 0; k < 3; k++) {
            x.image(k);
            x.again(k);
        }
        askOfTown(x);
        x.deed(0, 0, 0);
        x.till(0, 0);
        x.state(0, 0, 5, 1);
        x.fact(0, -1, 0);
        x.fits(0, 0, 2);
        x.after(0, 0, 1);
        x.share(0, 0, 0, 1, true);
        x.fewest(0, 0, true);
        x.grown(99, 1, 99);
    }

    private static void askOfTown(KeptCompany x) {
        x.town(0, 10);
        x.court(0, 0, true);
        x.rota(0, true);
        x.net(0, 0);
        x.settled(0);
        x.ruin(0, 0);
        x.borrow(0, 0, 9, 1);
        x.lenders(0, 3);
        x.choice(0, 5, true);
        x.talk(0, 0, 3, 12, true);
        x.drawn(0, 5, 60, 1);
        for (int what = 0; what < 26; what++) {
            x.ring(0, what);
        }
        x.chain(0, 3);
        x.wealth(0, 0);
        x.relief(0, 3);
        x.party(0, 3, true);
        x.tables(0, 3);
        x.hour(0, 3);
        x.meet(0, true, true);
        x.guest(0, 9, true);
    }
}
