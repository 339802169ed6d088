import com.sun.management.ThreadMXBean;
import java.lang.management.ManagementFactory;
import java.util.Random;

/** Any numbers in any state: nothing is thrown, no call makes objects, and the largest programs end soon. */
public final class RoomTest {
    static final int OBJECT_BYTES = 400000, CALLS = 512;
    static final int[] WILD = {Integer.MIN_VALUE, Integer.MAX_VALUE, -6, -5, -4, -2, -1, 0, 1, 2, 3, 4, 5, 6, 7, 8, 9, 12, 13,
        31, 63, 64, 65, 119, 120, 300, 8191, 8192, 20000, 20001, 1 << 30};
    static final ThreadMXBean BEAN = (ThreadMXBean) ManagementFactory.getThreadMXBean();
    static int wrong;

    static long made() { return BEAN.getThreadAllocatedBytes(Thread.currentThread().getId()); }

    static int number(Random r) {
        int k = r.nextInt(10);
        return k < 5 ? r.nextInt(8) : k < 7 ? r.nextInt(64) : k < 8 ? r.nextInt(8193) : WILD[r.nextInt(WILD.length)];
    }

    static long any(ValidPaths x, Random r) {
        int a = number(r), b = number(r), c = number(r), d = number(r), e = number(r);
        switch (r.nextInt(36)) {
            case 0: return x.procedure(a, b);
            case 1: return x.ends(a, b > 3);
            case 2: return x.outcome(a, b);
            case 3: return x.node(a, b, c, d, e);
            case 4: return x.node(0, 2 + r.nextInt(7), 1 + r.nextInt(4), 1, 2);
            case 5: return x.call(a, b, c, d);
            case 6: return x.call(0, 0, -5, 0);
            case 7: return x.argument(a, b, c);
            case 8: return x.copy(a, b, c, d, e);
            case 9: return x.edge(a, b);
            case 10: return x.edge(r.nextInt(64), r.nextInt(64));
            case 11: return x.told(a, b);
            case 12: return x.given(a, b);
            case 13: return x.is(a, b);
            case 14: return x.client(a);
            case 15: return x.flow(a, b, c, d);
            case 16: return x.zero(a, b, c);
            case 17: return x.forget(a, b);
            case 18: return x.begin(a);
            case 19: return x.goes(a, b, c);
            case 20: return x.solve(a);
            case 21: return x.solve(20000);
            case 22: return x.solved();
            case 23: return x.holds(a);
            case 24: return x.edges(a > 3);
            case 25: return x.from(a, b);
            case 26: return x.summary(a, b);
            case 27: return x.share(a);
            case 28: return x.length(a, b);
            case 29: return x.track(a, b);
            case 30: return x.at(a, b);
            case 31: return x.reports();
            case 32: return x.report(a, b);
            case 33: return x.count(a);
            case 34: return x.finding() + x.findings(a);
            default: return x.digest();
        }
    }

    static void wildRun(long seed) {
        Random r = new Random(seed);
        long before = made();
        ValidPaths x = new ValidPaths();
        long between = made();
        long sum = 0;
        for (int i = 0; i < CALLS; i++) sum = 31 * sum + any(x, r);
        long after = made();
        // the measuring itself may make a little
        if (between - before > OBJECT_BYTES || after - between > 2000) {
            wrong++;
            System.out.println("run " + seed + " made " + (between - before) + " bytes at first, then " + (after - between) + ", sum " + sum);
        }
    }

    /** The dearest program: all facts go to all facts, by as many calls as there can be. */
    static void dearest() {
        ValidPaths x = new ValidPaths();
        x.procedure(8, 0);
        int last = 0;
        for (int i = 0; i < 31; i++) {
            int c = x.call(0, 0, -5, 0);
            x.edge(last, c);
            last = c + 1;
            x.edge(last, 1);
        }
        x.edge(0, 1);
        x.client(2);
        for (int n = 0; n < 64; n++) {
            int parts = x.told(n, 1) == 9 ? 3 : 1;
            for (int part = 0; part < parts; part++) {
                x.zero(n, part, 8191);
                for (int f = 1; f <= 12; f++) x.flow(n, part, f, 8191);
            }
        }
        for (int i = 0; i < 10; i++) {
            x.begin(8191);
            int turns = x.solve(20000);
            long length = x.length(63, 12);
            // every fact at every node but the enter, by every fact at it
            if (turns != 63 * 169 + 13 || length != 62 || x.edges(true) != 31 * 169) {
                wrong++;
                System.out.println("dearest: " + turns + " turns, length " + length + ", summaries " + x.edges(true));
            }
        }
    }

    public static void main(String[] args) {
        made();
        made();
        for (long seed = 1; seed <= 400; seed++) wildRun(seed);
        dearest();
        System.out.println(wrong == 0 ? "all runs keep to their room" : wrong + " runs do not keep to their room");
        if (wrong != 0) System.exit(1);
    }
}
