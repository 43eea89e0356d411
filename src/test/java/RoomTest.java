import com.sun.management.ThreadMXBean;
import java.lang.management.ManagementFactory;
import java.lang.reflect.Array;
import java.lang.reflect.Field;
import java.lang.reflect.Modifier;

/** All calls of a run live in one room: an object is small, and its calls make nothing. */
public final class RoomTest {
    private static final int MOST_OBJECTS = 100;
    private static final int MOST_ELEMENTS = 1500;
    /** What the machine itself may need beside 512 rounds of calls; one object a round would be more. */
    private static final long MOST_BYTES = 4096;

    private static int objects = 0;
    private static int elements = 0;

    public static void main(String[] args) throws Exception {
        gather(new WatchDogs());
        Check.holds("objects: " + objects, objects <= MOST_OBJECTS);
        Check.holds("fields and elements: " + elements, elements <= MOST_ELEMENTS);
        callsMakeNothing();
        Check.finish();
    }

    /** The class holds no ring, so each object is met once. */
    private static void gather(Object o) throws Exception {
        objects++;
        if (o.getClass().isArray()) {
            elements += Array.getLength(o);
            for (int i = 0; i < Array.getLength(o) && o instanceof Object[]; i++) {
                gather(Array.get(o, i));
            }
            return;
        }
        for (Field f : o.getClass().getDeclaredFields()) {
            if (!Modifier.isStatic(f.getModifiers())) {
                elements++;
                f.setAccessible(true);
                if (!f.getType().isPrimitive()) {
                    gather(f.get(o));
                }
            }
        }
    }

    private static void callsMakeNothing() {
        WatchDogs x = Check.told("plain 2;twice 1;half 7;window 3;signs 1 2 0 4 8 15;jam 5 4;");
        byte[] text = "plain 2;twice 1;half 7;window 3;signs 1 2 0 4 8 15;jam 5 4;".getBytes();
        ThreadMXBean threads = (ThreadMXBean) ManagementFactory.getThreadMXBean();
        round(x, text);
        threads.getCurrentThreadAllocatedBytes();
        long before = threads.getCurrentThreadAllocatedBytes();
        for (int i = 0; i < 512; i++) {
            round(x, text);
        }
        long made = threads.getCurrentThreadAllocatedBytes() - before;
        Check.holds("bytes made by 512 rounds of calls: " + made, made <= MOST_BYTES);
    }

    private static void round(WatchDogs x, byte[] text) {
        for (byte b : text) {
            x.feed(b);
        }
        x.text();
        x.ticks(3);
        x.add(1);
        x.set(0, 3);
        x.stick(9, 9);
        x.alter(0, 1, 3);
        x.bone(0);
        x.runs(20, 0);
        x.ahead(0, 20, 0);
        x.when();
        x.need(0, 20);
        x.most(0, 20);
        x.kind(0, 20, 0);
        x.swap(20, 0);
        x.sleep(20, 0);
        x.luck(3, 4, 0);
        x.mean(3, 4, 0);
        x.see(3, 0);
        x.kinds(0);
        x.limits(0);
        x.ask(0, 0);
        x.drift(7, 20, 0);
        x.keep(0);
        x.back(0);
        x.sheet(0, 0, 40);
        x.lay(0, 1, 1);
        x.read(0, 0, 0, 20);
        x.count(5);
        x.cut(2);
        x.clear(0);
        x.end(0);
    }
}
