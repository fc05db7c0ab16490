import com.sun.management.ThreadMXBean;
import java.lang.management.ManagementFactory;

/** "All memory is the box's own, made once": no call that is not refused makes an object. */
public final class MemoryTest {
    private static final int ROUNDS = 50;

    private MemoryTest() {
    }

    public static void main(String[] args) {
        ThreadMXBean bean = (ThreadMXBean) ManagementFactory.getThreadMXBean();
        // The first rounds load classes, which is not the box's doing.
        everyCall(new PartBox());
        bean.getCurrentThreadAllocatedBytes();
        long before = bean.getCurrentThreadAllocatedBytes();
        PartBox x = new PartBox();
        long made = bean.getCurrentThreadAllocatedBytes();
        for (int round = 0; round < ROUNDS; round++) {
            everyCall(x);
        }
        long after = bean.getCurrentThreadAllocatedBytes();
        Due.isTrue("a new object takes less than 200000 bytes, not " + (made - before), made - before < 200000);
        Due.isTrue("its calls take none, not " + (after - made), after - made < ROUNDS);
        Due.finish();
    }

    private static void everyCall(PartBox x) {
        x.erase();
        x.type(0x6E616D65);
        x.feed(1, 2, 3, 4, 5);
        x.end(17);
        x.alter(16, 255);
        x.add();
        x.type(0x62);
        x.addPacked(x.length() + x.byteAt(16), 7);
        x.move(0, 1);
        x.about(1, 3);
        x.name(0, 4);
        x.part(1, 16);
        x.find();
        x.write();
        x.read(65536);
        x.read(0);
        x.blame(x.count());
        x.remove(0);
        x.remove(0);
        x.end(0);
    }
}
