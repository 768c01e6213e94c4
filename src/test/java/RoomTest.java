import com.sun.management.ThreadMXBean;
import java.lang.management.ManagementFactory;
import java.util.Random;

/** What the dearest runs of 512 calls make, in bytes, and that no call throws, for any numbers. */
public final class RoomTest {
    static final ThreadMXBean BEAN = (ThreadMXBean) ManagementFactory.getThreadMXBean();
    /** 600,000 objects of 16 bytes ahead of their fields would be more than this alone. */
    static final long MOST_BYTES = 5_000_000;

    static long made() {
        return BEAN.getThreadAllocatedBytes(Thread.currentThread().getId());
    }

    interface Run {
        void on(HoleDesk d);
    }

    static void room(String what, Run run) {
        long before = made();
        HoleDesk d = new HoleDesk();
        run.on(d);
        long bytes = made() - before;
        System.out.println(what + ": " + bytes + " bytes");
        Desk.due("room of " + what, bytes < MOST_BYTES ? 1 : 0, 1);
    }

    /** Uses that go on until 300 STEPS are done, with a hole that is left in each value. */
    static void busy(HoleDesk d) {
        Desk.put(d, "(let f (def x 0 (pair (+ x ?) (pair x (+ x 1)))) "
            + "(let g (def y 0 (use f (use f (pair (use f y) ?)))) (pair (use g 1) (pair (use g ?) (use g 3)))))");
    }

    static void anything(long seed) {
        Random random = new Random(seed);
        HoleDesk d = new HoleDesk();
        for (int i = 0; i < 2000; i++) {
            int[] n = new int[3];
            for (int j = 0; j < 3; j++) {
                int kind = random.nextInt(8);
                n[j] = kind == 0 ? random.nextInt() : kind == 1 ? Integer.MIN_VALUE : kind == 2 ? Integer.MAX_VALUE
                    : kind == 3 ? -random.nextInt(12) : random.nextInt(kind == 4 ? 400 : 18);
            }
            String[] names = LanguageTest.FACE.split(" ");
            String name = names[1 + random.nextInt(38)];
            DifferentialTest.answer(DifferentialTest.DESK, d,
                new DifferentialTest.Call(name, n[0], n[1], n[2]));
        }
    }

    public static void main(String[] args) {
        room("a new desk", d -> { });
        room("work", d -> {
            busy(d);
            for (int i = 0; i < 480; i++) {
                d.work(300);
            }
        });
        room("resume", d -> {
            busy(d);
            d.work(300);
            for (int i = 0; i < 480; i++) {
                d.resume(300);
            }
        });
        room("fill and undo", d -> {
            for (int i = 0; i < 29; i++) {
                d.put(12, 0, 0);
            }
            d.go(5);
            d.shelve(0);
            d.take();
            for (int i = 0; i < 240; i++) {
                d.fill(0);
                d.undo();
            }
        });
        room("offers", d -> {
            for (int i = 0; i < 19; i++) {
                d.put(10, i, 0);
                d.go(1);
                d.go(2);
            }
            for (int i = 0; i < 450; i++) {
                d.offer(i % 40, 1);
            }
        });
        room("acts", d -> {
            for (int i = 0; i < 512; i++) {
                if (d.put(12, 0, 0) < 0) {
                    d.go(5);
                    d.take();
                }
            }
        });
        room("looking", d -> {
            busy(d);
            d.work(300);
            for (int i = 0; i < 480; i++) {
                d.value(i);
                d.seen(0, 23, i);
                d.digest();
            }
        });
        for (long seed = 0; seed < 400; seed++) {
            anything(seed);
        }
        Desk.end();
    }
}
