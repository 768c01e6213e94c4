import com.sun.management.ThreadMXBean;
import java.lang.management.ManagementFactory;
import java.util.Random;

/** What the dearest runs of 512 calls make, in bytes, and that no call throws, for any numbers. */
public final class RoomTest {
    static final ThreadMXBean BEAN = (ThreadMXBean) ManagementFactory.getThreadMXBean();
    /** A tenth of 600,000 objects of 16 bytes; rows that were not used again would be more. */
    static final long MOST_BYTES = 1_000_000;

    static long made() {
        return BEAN.getThreadAllocatedBytes(Thread.currentThread().getId());
    }

    interface Run {
        void on(HoleDesk d);
    }

    static void room(String what, Run run) {
        long before = made();
        HoleDesk d = new HoleDesk();
        run.on(d);
        long bytes = made() - before;
        System.out.println(what + ": " + bytes + " bytes");
        Desk.due("room of " + what, bytes < MOST_BYTES ? 1 : 0, 1);
    }

    /** Uses that take nearly 300 STEPS, in working and in going on, with holes and frames in what comes. */
    static void busy(HoleDesk d) {
        Desk.put(d, "(let f (def x 0 (pair (+ x ?) (told 1 (told 2 x)))) "
            + "(let g (def y 0 (pair (use f y) (use f (pair y ?)))) "
            + "(pair (use g 1) ".repeat(8) + "(use g ?)" + ")".repeat(10));
        Desk.due("24: busy", d.work(300), 1);
        Desk.due("26: busy", d.steps() > 240 ? 1 : 0, 1);
        Desk.due("25: busy", d.resume(300), 1);
        Desk.due("26: busy", d.steps() > 270 ? 1 : 0, 1);
    }

    static void anything(long seed) {
        Random random = new Random(seed);
        HoleDesk d = new HoleDesk();
        for (int i = 0; i < 2000; i++) {
            int[] n = new int[3];
            for (int j = 0; j < 3; j++) {
                int kind = random.nextInt(8);
                n[j] = kind == 0 ? random.nextInt() : kind == 1 ? Integer.MIN_VALUE : kind == 2 ? Integer.MAX_VALUE
                    : kind == 3 ? -random.nextInt(12) : random.nextInt(kind == 4 ? 400 : 18);
            }
            String[] names = LanguageTest.FACE.split(" ");
            String name = names[1 + random.nextInt(38)];
            DifferentialTest.answer(DifferentialTest.DESK, d,
                new DifferentialTest.Call(name, n[0], n[1], n[2]));
        }
    }

    public static void main(String[] args) {
        room("a new desk", d -> { });
        room("work", d -> {
            busy(d);
            for (int i = 0; i < 430; i++) {
                d.work(300);
            }
        });
        room("resume", d -> {
            busy(d);
            for (int i = 0; i < 430; i++) {
                d.resume(300);
            }
        });
        room("fill and undo", d -> {
            for (int i = 0; i < 29; i++) {
                d.put(12, 0, 0);
            }
            d.go(5);
            d.shelve(0);
            d.take();
            for (int i = 0; i < 240; i++) {
                d.fill(0);
                d.undo();
            }
        });
        room("offers", d -> {
            for (int i = 0; i < 19; i++) {
                d.put(10, i, 0);
                d.go(1);
                d.go(2);
            }
            for (int i = 0; i < 450; i++) {
                d.offer(i % 40, 1);
            }
        });
        room("acts", d -> {
            for (int i = 0; i < 512; i++) {
                if (d.put(12, 0, 0) < 0) {
                    d.go(5);
                    d.take();
                }
            }
        });
        room("looking", d -> {
            busy(d);
            for (int i = 0; i < 140; i++) {
                d.value(i);
                d.seen(0, 23, i);
                d.digest();
            }
        });
        for (long seed = 0; seed < 400; seed++) {
            anything(seed);
        }
        Desk.end();
    }
}
