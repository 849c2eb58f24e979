import java.lang.management.ManagementFactory;

/** Runs of 512 wild calls: none throws, what is refused changes nothing, and little is made. */
public final class LongRunTest {
    private static final Due due = new Due("LongRunTest");
    private static final int CALLS = 512;
    private static final int[] WILD = {Integer.MIN_VALUE, Integer.MAX_VALUE, -1, 9, 10, 12, 30, 64, 1000, 1001, 362880};
    private static long seed = 1;

    private static int pick(int below) {
        seed = seed * 6364136223846793005L + 1442695040888963407L;
        return (int) Long.remainderUnsigned(seed >>> 33, below);
    }

    private static int number(int below) {
        return pick(12) == 0 ? WILD[pick(WILD.length)] : pick(below);
    }

    /** A call: which one, and what it is given. */
    private record Call(int which, int a, int b, int c, long order) { }

    private static Call randomCall() {
        int which = pick(24);
        int b = which == 2 ? number(5) : which == 13 ? number(40) - 8 : which == 4 ? number(8) : number(7);
        int c = which == 3 ? 1 + number(3) : number(4);
        long order = pick(4) == 0 ? seed : new long[] {0, 10, 1, 210, 120, 3210, 1320, 43210, 876543210L}[pick(9)];
        return new Call(which, number(which == 0 || which == 1 ? 8 : which == 2 ? 4 : 6), b, c, order);
    }

    private static long answer(CreaseFlat x, Call k) {
        switch (k.which) {
            case 0: return x.strip(k.a);
            case 1: return x.corner(k.a);
            case 2: return x.map(k.a, k.b);
            case 3: return x.length(k.a, k.b, k.c);
            case 4: return x.mark(k.a, k.b, k.c);
            case 5: return x.about(k.a, k.b);
            case 6: return x.crease(k.a, k.b, k.c);
            case 7: return x.judge(k.a);
            case 8: return x.layer(k.a);
            case 9: return x.turned(k.a);
            case 10: return x.orders(k.a);
            case 11: return x.order(k.a, k.b);
            case 12: return x.check(k.a, k.order);
            case 13: return x.fold(k.a, k.b);
            case 14: return x.forced(k.a, k.b);
            case 15: return x.above(k.a, k.b, k.c);
            case 16: return x.alike(k.a, k.b);
            case 17: return x.foldings(k.a);
            case 18: return x.clash(k.a);
            case 19: return x.inClash(k.a);
            case 20: return x.simple(k.a);
            case 21: return x.step(k.a);
            case 22: return x.flatten(k.a);
            default: return x.lies(k.a, k.b, k.c);
        }
    }

    private static void wildRun(int run) {
        CreaseFlat all = new CreaseFlat();
        CreaseFlat onlyTaken = new CreaseFlat();
        for (int i = 0; i < CALLS; i++) {
            Call call = randomCall();
            long got = answer(all, call);
            boolean refused = got <= CreaseFlat.UNKNOWN && got >= CreaseFlat.ROOM;
            if (!refused) {
                due.is("run " + run + ", call " + i + " " + call, answer(onlyTaken, call), got);
            }
        }
    }

    private static long madeBytes() {
        return ((com.sun.management.ThreadMXBean) ManagementFactory.getThreadMXBean()).getThreadAllocatedBytes(Thread.currentThread().getId());
    }

    private static void dearestCalls(CreaseFlat x, int calls) {
        for (int i = 0; i < calls; i++) {
            x.foldings(i % 30);
            x.alike(i % 30, i % 30);
            x.simple(i % 30);
            x.clash(i % 30);
            x.length(i % 30, 0, 1);
        }
    }

    private static void littleIsMade() {
        dearestCalls(new CreaseFlat(), 1);
        long before = madeBytes();
        CreaseFlat x = new CreaseFlat();
        for (int i = 0; i < 30; i++) {
            x.strip(9);
        }
        dearestCalls(x, 90);
        long made = madeBytes() - before;
        due.holds("a full run makes " + made + " bytes", made < 100_000);
    }

    public static void main(String[] args) {
        for (int run = 0; run < 60; run++) {
            wildRun(run);
        }
        littleIsMade();
        due.end();
    }
}
