import java.lang.management.ManagementFactory;

/**
 * All calls of a run live in one room: an object makes its rows when it is made and no call
 * makes anything more. Also every call with every strange number, in several states, must
 * answer and never throw.
 */
public final class RoomTests {
    private static final int[] ODD = {0, 1, 2, 3, 4, 5, 7, 8, 15, 16, 31, 32, 100, 495, 1023, 3000, 65535,
        -1, -2, -4, Integer.MAX_VALUE, Integer.MIN_VALUE};
    private static long sum = 0;

    public static void main(String[] args) {
        SaidWoven[] states = {new SaidWoven(), full(1, 8), full(16, 8), full(16, 1), full(5, 3)};
        for (SaidWoven x : states) {
            everyCall(x);
        }
        com.sun.management.ThreadMXBean bean = (com.sun.management.ThreadMXBean) ManagementFactory.getThreadMXBean();
        SaidWoven x = full(16, 8);
        dearCalls(x);
        long before = bean.getCurrentThreadAllocatedBytes();
        for (int i = 0; i < 20; i++) {
            dearCalls(x);
        }
        long calls = bean.getCurrentThreadAllocatedBytes() - before;
        before = bean.getCurrentThreadAllocatedBytes();
        new SaidWoven();
        long made = bean.getCurrentThreadAllocatedBytes() - before;
        System.out.println("an object takes " + made + " bytes, the calls " + calls + " (" + sum + ")");
        if (calls > 4096 || made > 65536) {
            System.out.println("that is too much");
            System.exit(1);
        }
    }

    private static SaidWoven full(int words, int places) {
        SaidWoven x = new SaidWoven();
        for (int i = 0; i < words; i++) {
            String item = "w" + i % 8 + "," + i / 3 + "," + (7 - i % 8) + ";";
            for (int b = 0; b < item.length(); b++) {
                x.write(1, item.charAt(b));
            }
        }
        x.lay();
        for (int v = 0; v < 6; v++) {
            for (int p = 0; p < places; p++) {
                x.add(v, (p + v) % words);
            }
        }
        for (int h = 0; h < 16; h++) {
            x.head(h, h - 1, h % 6);
            x.slip(h % 6, h % 8, h % words);
        }
        x.say(0, 4);
        return x;
    }

    private static void everyCall(SaidWoven x) {
        for (int a : ODD) {
            sum += x.write(a, a) + x.clear(a) + x.nearest(a) + x.slips(a) + x.same(a) + x.count(a);
            sum += x.alive(a, true) + x.alive(a, false) + x.lost(a) + x.wipe() + x.fault() + x.keep() + x.back() + x.back();
            for (int b : ODD) {
                sum += x.joined(a, b) + x.add(a, b) + x.word(a, b) + x.say(a, b) + x.alter(a, b) + x.since(a, b);
                sum += x.list(a, b) + x.from(a, b) + x.soundSo() + x.rivals();
                for (int c : ODD) {
                    sum += x.said(a, b, c) + x.far(a, b, c) + x.learnt(a, b, c) + x.slip(a, b, c) + x.head(a, b, c);
                    if (a < 2) {
                        sum += x.best(a, b, c);
                    }
                    for (int d : ODD) {
                        sum += x.odds(a, b, c, d);
                    }
                }
            }
        }
        sum += x.noSlips() + x.lay();
    }

    private static void dearCalls(SaidWoven x) {
        sum += x.say(1, 4) + x.nearest(2) + x.soundSo() + x.rivals() + x.far(1, 31, 0) + x.best(1, 3, 0);
        sum += x.slips(0) + x.slips(1) + x.slips(2) + x.learnt(1, 3, 0) + x.said(1, 4, 40) + x.fault();
        sum += x.keep() + x.back() + x.since(0, 0) + x.same(1) + x.lost(3) + x.from(3, 1) + x.odds(1, 99, 4, 0);
    }
}
