import com.sun.management.ThreadMXBean;
import java.lang.management.ManagementFactory;

/** All calls of a run live in one room: an object's rows are made with it, and its calls make nothing more. */
public final class RoomTest {
    private static final String TEXT = "land l;land m;near 8*off<=unit and (stones>2 or not sort=0);"
        + "ring a l stone 100 0 stone 0 100 lean 1 1 stone -100 0 stone 0 -100 again;"
        + "ring b m stone 50 3 stone 1 52 stone -49 0 stone 0 -50 stone 30 40;"
        + "way rod 2 3 0 0 0 6 5;way eye 3 1 1 1 1 1 1;said kim a 20100 blind;said jo b 9000;";

    public static void main(String[] args) {
        ThreadMXBean bean = (ThreadMXBean) ManagementFactory.getThreadMXBean();
        YardRings x = new YardRings();
        useAll(x, 2);
        long before = bean.getCurrentThreadAllocatedBytes();
        YardRings y = new YardRings();
        long made = bean.getCurrentThreadAllocatedBytes() - before;
        before = bean.getCurrentThreadAllocatedBytes();
        useAll(y, 20);
        long used = bean.getCurrentThreadAllocatedBytes() - before;
        System.out.println("an object takes " + made + " bytes, its calls " + used);
        if (made > 50000 || used > 20 * 1000) {
            System.out.println("that is too much");
            System.exit(1);
        }
    }

    private static void tell(YardRings x) {
        for (int i = 0; i < TEXT.length(); i += 20) {
            int[] n = new int[5];
            for (int k = 0; k < 20; k++) {
                n[k / 4] = n[k / 4] << 8 | (i + k < TEXT.length() ? TEXT.charAt(i + k) : ' ');
            }
            x.feed(n[0], n[1], n[2], n[3], n[4]);
        }
        if (x.text(TEXT.length()) != 9) {
            System.out.println("the text has a fault: " + x.fault(0) + " at " + x.fault(1));
            System.exit(1);
        }
    }

    /** The bytes that this takes are those of tell()'s own rows. */
    private static void useAll(YardRings x, int rounds) {
        long sum = 0;
        for (int round = 0; round < rounds; round++) {
            tell(x);
            x.mode(round % 4, round % 2 == 0);
            for (int i = 0; i < 60; i++) {
                sum += x.tape(i % 2, i % 3, i, 2 * i) + x.gone(0, 3, i % 2 == 0) + x.strike(i / 2);
                sum += x.known(i / 2) ? 1 : 0;
                sum += x.look(0, 0, 0) + x.about(0, 2) + x.named(0, i) + x.count(i % 14);
                sum += x.fit(0, 1, i % 4, 0) + x.best(1, 2) + x.well(0) + x.span(1, 0) + x.next();
                sum += x.whole(20000, 300, 0) + x.near(300) + x.lumps(300) + x.unit(100, 200, 1, 0) + x.odds(300, 1);
                sum += x.any(100, 199, 1, 50, 1, 3) + x.chosen(300, 0) + x.tells(0, 300, 0) + x.hump(300, 0);
                sum += x.wander(300, -1) + x.land(0, 100, 200, 1) + x.apart(100, 200, 1) + x.sort(0, 300, 0);
                sum += x.blind(300, 0) + x.lean(0, 0) + x.ahead(0, 100, 200, 1, 1);
            }
            x.known(-1);
        }
        if (sum == 0) {
            System.out.println("nothing was answered");
        }
    }
}
