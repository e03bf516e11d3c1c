import java.lang.management.ManagementFactory;
import java.util.Random;

/** Any calls with any numbers: none throws, all end, and the room is small. */
public final class RoomTest {
    private static final Checks CHECKS = new Checks();
    private static final int[] ODD_NUMBERS = {Integer.MIN_VALUE, Integer.MAX_VALUE, -1, -2, 8, 9, 20, 21, 31, 32, 33, 64,
        120, 255, 256, 500, 501, 1 << 30};
    private static final int CALLS = 512;

    public static void main(String[] args) {
        for (int seed = 0; seed < 3000; seed++) anyCalls(new Random(seed));
        dearestCalls();
        CHECKS.end("RoomTest");
    }

    private static void anyCalls(Random random) {
        OneMark x = new OneMark();
        for (int i = 0; i < CALLS / 4; i++) anyCall(x, random);
        CHECKS.isTrue("places", x.count(0) >= 0 && x.count(0) <= 8);
        CHECKS.isTrue("arrows", x.count(1) >= 0 && x.count(1) <= 20);
        CHECKS.isTrue("bytes", x.count(4) >= 0 && x.count(4) <= 120);
    }

    private static int any(Random random, int end) {
        return random.nextInt(12) == 0 ? ODD_NUMBERS[random.nextInt(ODD_NUMBERS.length)] : random.nextInt(end);
    }

    private static int anyCall(OneMark x, Random random) {
        int player = any(random, 2);
        int place = any(random, 4);
        int set = any(random, 16);
        int arrow = any(random, 8);
        switch (random.nextInt(27)) {
            case 0: return x.place(player, any(random, 8));
            case 1: return x.cut(arrow);
            case 2: return x.give(place, player);
            case 3: return x.set(any(random, 2), arrow, any(random, 8));
            case 4: return x.from(place, any(random, 4));
            case 5: return x.forced(player, set);
            case 6: return x.steps(player, set, place);
            case 7: return x.kept(player, set);
            case 8: return x.again(player, set);
            case 9: return x.both(player, set, any(random, 16));
            case 10: return x.won();
            case 11: return x.plan(place);
            case 12: return x.after(any(random, 400), place);
            case 13: return x.mean(place, any(random, 2));
            case 14: return x.rate(player, set, place, any(random, 2));
            case 15: return x.tell(arrow);
            case 16: return x.untell(place);
            case 17: return x.judged(player);
            case 18: return x.breaker(player, place, any(random, 5));
            case 19: return x.worth(player, place, any(random, 2));
            case 20: return x.write(random.nextLong(), any(random, 9));
            case 21: return x.fault() + x.ask() + x.holds();
            case 22: return x.turned();
            case 23: return x.bought() + x.count(any(random, 6));
            case 24: return random.nextInt(3) == 0 ? x.erase() : 0;
            case 25: return Texts.ask(x, Asking.question(random, 1 + random.nextInt(4), 2).words());
            default: return x.arrow(place, any(random, 4), any(random, 6));
        }
    }

    /** The dearest calls take no room of their own and end soon. */
    private static void dearestCalls() {
        com.sun.management.ThreadMXBean bean = (com.sun.management.ThreadMXBean) ManagementFactory.getThreadMXBean();
        long id = Thread.currentThread().getId();
        OneMark x = new OneMark();
        for (int p = 0; p < 8; p++) x.place(p & 1, 7 - p);
        for (int p = 0; p < 8; p++) for (int i = 1; i <= 3 && x.count(1) < 20; i++) x.arrow(p, (p + i) % 8, i - 3);
        Texts.ask(x, "mean 0 above 4 or mean 1 above 4 or mean 2 above 4 or mean 3 above 4 or mean 4 above 4 or even from 0 and even from 1");
        Texts.ask(x, "mean 0 above 4 or mean 1 above 4 or mean 2 above 4 or mean 3 above 4 or mean 4 above 4");
        long warm = x.bought() + x.turned() + x.plan(6) + x.mean(0, 0) + x.after(500, 0) + x.breaker(0, 0, 8) + x.fault();
        long before = bean.getThreadAllocatedBytes(id);
        for (int i = 0; i < 48; i++) {
            warm += x.bought() + x.turned() + x.plan(6) + x.mean(0, 0) + x.after(500, 0) + x.breaker(0, 0, 8) + x.fault();
        }
        long taken = bean.getThreadAllocatedBytes(id) - before;
        CHECKS.isTrue("the calls take no room: " + taken + " bytes (" + warm + ")", taken < 4096);
        long start = bean.getThreadAllocatedBytes(id);
        new OneMark();
        long made = bean.getThreadAllocatedBytes(id) - start;
        CHECKS.isTrue("an object takes " + made + " bytes", made < 12000);
    }
}
