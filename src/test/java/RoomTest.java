import com.sun.management.ThreadMXBean;
import java.lang.management.ManagementFactory;

/** The dearest 512 calls of one object stay in a small part of the room that a run has. */
final class RoomTest {
    /** 7.3 million elements of at least four bytes; one object shall not take a tenth of it. */
    private static final long MOST_BYTES = 7300000L * 4 / 10;

    public static void main(String[] args) {
        ThreadMXBean bean = (ThreadMXBean) ManagementFactory.getThreadMXBean();
        dearest();
        long before = bean.getCurrentThreadAllocatedBytes();
        dearest();
        long made = bean.getCurrentThreadAllocatedBytes() - before;
        System.out.println("512 dear calls took " + made + " bytes");
        Due.is("512 dear calls take at most " + MOST_BYTES + " bytes, took " + made, made <= MOST_BYTES, true);
        before = bean.getCurrentThreadAllocatedBytes();
        new WordYear();
        made = bean.getCurrentThreadAllocatedBytes() - before;
        Due.is("a new object takes at most 20000 bytes, took " + made, made <= 20000, true);
        Due.end("RoomTest");
    }

    private static void dearest() {
        WordYear x = new WordYear();
        int calls = 0;
        for (int thing = 0; thing < 6; thing++) {
            x.word(0, 1 << thing, 2 + thing % 3);
        }
        x.word(1, 0, 1);
        x.word(2, 0, 2);
        x.word(3, 0, 2);
        x.word(0, 21, 9);
        for (int i = 0; i < 24; i++) {
            x.want(i % 4, 37 * i % 64, 10 + i, i % 2 * 20);
        }
        x.people(0, 1);
        calls += 10 + 24 + 1;
        while (calls < 500) {
            String law = "kx*" + calls % 7 + "+y*l(!x>w&y<3|l*" + calls + "<s)";
            Text.feed(x, law);
            x.near(law.length());
            x.order(6, -1);
            x.gap(6);
            x.kept(5, 0);
            x.madeUp(1, 0);
            x.fewest();
            x.round();
            x.vote(2);
            x.till();
            calls += 11;
        }
    }
}
