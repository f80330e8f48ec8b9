import java.lang.management.ManagementFactory;

/**
 * All calls of a run share one room of some 600,000 objects and 7.3 million fields and elements. So an object
 * of the class is small, and no call makes anything, whatever it divides.
 */
final class AllocationTest {
    private static final int CALLS = 512;
    // Each call that made the smallest object would come to 16 bytes.
    private static final long FREE_BYTES = CALLS * 8;
    // 7.3 million elements over 512 objects would be 14,000 elements each.
    private static final long MOST_BYTES_OF_AN_OBJECT = 8000;
    private static final Check CHECK = new Check("AllocationTest");

    public static void main(String[] args) {
        FairDesk six = new FairDesk();
        FairDesk three = new FairDesk();
        callsMakeNothing("values of six", () -> fill(six, 6, 6));
        callsMakeNothing("values of three", () -> fill(three, 3, 10));
        callsMakeNothing("goods of six", () -> divideGoods(six));
        callsMakeNothing("goods of three", () -> divideGoods(three));
        callsMakeNothing("rooms", () -> divideRooms(six));
        callsMakeNothing("cake by halves", () -> divideCake(six, true));
        callsMakeNothing("cake by least marks", () -> divideCake(six, false));
        long before = allocated();
        FairDesk[] made = new FairDesk[CALLS];
        for (int i = 0; i < CALLS; i++) {
            made[i] = new FairDesk();
        }
        long each = (allocated() - before) / CALLS;
        CHECK.isTrue("an object takes " + each + " bytes", each <= MOST_BYTES_OF_AN_OBJECT);
        CHECK.end();
    }

    private static void fill(FairDesk desk, int n, int m) {
        desk.people(n);
        desk.items(m);
        desk.cake(16);
        desk.total(21);
        for (int p = 0; p < n; p++) {
            for (int item = 0; item < m; item++) {
                desk.value(p, item, (p * 7 + item * 5) % 13);
            }
            for (int r = 0; r < n; r++) {
                desk.room(p, r, n == 6 ? (p * 5 + r) % 6 + 1 : 7);
            }
            for (int k = 0; k < 16; k++) {
                desk.density(p, k, (p * 7 + k * 5) % 13);
            }
        }
    }

    private static void divideGoods(FairDesk desk) {
        desk.picks(2);
        desk.circles();
        desk.product();
        desk.guarantee(1);
        desk.envy(0, 1, true);
    }

    private static void divideRooms(FairDesk desk) {
        desk.rooms();
        desk.rent(5, 1);
    }

    private static void divideCake(FairDesk desk, boolean halves) {
        desk.cut(halves);
        desk.piece(3, 2);
        desk.taste(1, 4, 0);
    }

    private static void callsMakeNothing(String what, Check.Call call) {
        call.run();
        long before = allocated();
        for (int i = 0; i < CALLS; i++) {
            call.run();
        }
        long bytes = allocated() - before;
        CHECK.isTrue(what + " made " + bytes + " bytes in " + CALLS + " rounds", bytes <= FREE_BYTES);
    }

    private static long allocated() {
        com.sun.management.ThreadMXBean bean = (com.sun.management.ThreadMXBean) ManagementFactory.getThreadMXBean();
        return bean.getThreadAllocatedBytes(Thread.currentThread().getId());
    }
}
