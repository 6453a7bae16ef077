import com.sun.management.ThreadMXBean;
import java.lang.management.ManagementFactory;

/** All calls of a run live in one room: a new object is small, and no call makes more. */
public final class RoomTest {
    private static final ThreadMXBean ROOM = (ThreadMXBean) ManagementFactory.getThreadMXBean();
    // Of 96 bytes: the tape holds no longer text.
    private static final String LIGHT = "light f*2+n+w/9*0+f*2+n+w/9*0+f*2+n+w/9*0-f*2-n-w/9*0-f*2-n-w/9*0+1+1+1+1+1+1+1+1+1+1+1+1+1+1+1";
    private static final String FEAR = "fear g+t+h*0+g+t+h*0+g+t+h*0+g+t+h*0-g-t-g-t-g-t+0+0+0+0+0+0+0+0+0+0+0+0+0+0+0+0+0+0+0+0+0+0+0";
    private static final String TIRE = "tire !!!!!!!!((((((((t>e))))))))+(t<e|t=e&e>t)";

    public static void main(String[] args) {
        newObjects();
        dearestCalls();
        Due.ends("RoomTest");
    }

    private static long made() {
        return ROOM.getThreadAllocatedBytes(Thread.currentThread().getId());
    }

    private static void newObjects() {
        WolfFires[] many = new WolfFires[100];
        for (int turn = 0; turn < 2; turn++) {
            long was = made();
            for (int k = 0; k < many.length; k++) {
                many[k] = new WolfFires();
            }
            long each = (made() - was) / many.length;
            Due.holds("a new object takes " + each + " bytes", each < 24000);
        }
    }

    private static WolfFires camp(int wagons) {
        WolfFires x = new WolfFires();
        for (int k = 0; k < wagons; k++) {
            x.wagon(90);
            x.lays(k, 1, k % 4);
        }
        x.plain(0, 9999);
        x.deal(8);
        for (int k = 0; k < 8; k++) {
            x.set(k, 4, k % 2);
        }
        Due.is(LIGHT, Due.text(x, LIGHT), 0);
        Due.is(FEAR, Due.text(x, FEAR), 1);
        Due.is(TIRE, Due.text(x, TIRE), 2);
        x.sheet(0, 1, 24);
        x.keep();
        return x;
    }

    private static void dearestCalls() {
        WolfFires big = camp(12);
        WolfFires small = camp(6);
        calls(big, small);
        long was = made();
        long start = System.nanoTime();
        for (int k = 0; k < 512 / 16; k++) {
            calls(big, small);
        }
        long seconds = (System.nanoTime() - start) / 1000000000L;
        long bytes = made() - was;
        Due.holds("512 calls made " + bytes + " bytes", bytes < 40000);
        System.out.println("512 of the dearest calls: " + seconds + " s, " + bytes + " bytes");
    }

    private static void calls(WolfFires big, WolfFires small) {
        big.signs(0, 60, 0);
        big.signs(0, 60, 1);
        big.watch(60, 0);
        big.place(0, 60);
        big.behind(300, 0);
        big.loss();
        big.lasts();
        big.hours(3);
        big.back();
        big.keep();
        big.lay(0, 2, 0);
        big.lay(1, 1, 0);
        big.sheet(0, 1, 24);
        big.check(30);
        small.fires(18, 2);
        small.feed(0x6c696768, 0x7420662a, 0x33202020);
        small.text();
        small.back();
    }
}
