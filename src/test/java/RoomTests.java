import java.lang.management.ManagementFactory;
import java.lang.reflect.Method;
import java.lang.reflect.Modifier;

/** Whatever a call is given it answers, nothing is thrown, and no call makes an object: the room is shared. */
public final class RoomTests {
    private static final Check CHECK = new Check("RoomTests");
    private static final int[] ANY = {Integer.MIN_VALUE, Integer.MIN_VALUE + 1, -100000, -31, -14, -2, -1, 0, 1, 2, 3,
        4, 5, 6, 7, 9, 10, 11, 15, 16, 20, 21, 30, 40, 41, 60, 61, 99, 100, 127, 128, 999, 9999, 10000,
        Integer.MAX_VALUE - 1, Integer.MAX_VALUE};

    public static void main(String[] args) throws Exception {
        anyArguments(new LakeBooks());
        anyArguments(full());
        rooms();
        CHECK.end();
    }

    private static LakeBooks full() {
        LakeBooks x = new LakeBooks();
        for (int a = 0; a < 6; a++) {
            x.account(a + 1, a, 5 - 3 * a);
            x.set(a, 0, 300 - 100 * a);
        }
        Check.law(x, "spring 9 l<30|d>4&!(m=0|d=7);sun 7 a<4&b>0|k=6;sun 2 !(!(!(!d=3)));mark 33;floor 9;rate 44");
        for (int i = 0; i < 8; i++) {
            x.see(i, 20);
            x.plan(i % 6, i);
            x.book(i % 6, i);
            x.tape(i % 6, i % 5, 60);
        }
        x.image();
        return x;
    }

    private static void anyArguments(LakeBooks x) throws Exception {
        for (Method call : LakeBooks.class.getDeclaredMethods()) {
            if (!Modifier.isPublic(call.getModifiers())) {
                continue;
            }
            int count = call.getParameterCount();
            long step = count > 3 ? 9973 : 1, all = 1;
            for (int p = 0; p < count; p++) {
                all *= ANY.length;
            }
            for (long pick = 0; pick < all; pick += step) {
                callWith(x, call, pick);
            }
        }
    }

    private static void callWith(LakeBooks x, Method call, long pick) {
        Object[] values = new Object[call.getParameterCount()];
        long left = pick;
        for (int p = 0; p < values.length; p++) {
            int n = ANY[(int) (left % ANY.length)];
            left /= ANY.length;
            if (call.getParameterTypes()[p] == long.class) {
                values[p] = (long) n << 20;
            } else {
                values[p] = n;
            }
        }
        boolean thrown = false;
        try {
            call.invoke(x, values);
        } catch (ReflectiveOperationException e) {
            thrown = true;
        }
        CHECK.holds(call.getName() + java.util.Arrays.toString(values) + " throws nothing", !thrown);
    }

    private static void rooms() {
        LakeBooks x = full();
        askAll(x, 200);
        com.sun.management.ThreadMXBean threads =
            (com.sun.management.ThreadMXBean) ManagementFactory.getThreadMXBean();
        long thread = Thread.currentThread().getId();
        long before = threads.getThreadAllocatedBytes(thread);
        askAll(x, 2000);
        long made = threads.getThreadAllocatedBytes(thread) - before;
        // What the measuring itself makes is some kilobytes; one object a call would be far more.
        CHECK.holds("calls make no objects, but made bytes: " + made, made < 100_000);
    }

    private static long askAll(LakeBooks x, int times) {
        long sum = 0;
        for (int i = 0; i < times; i++) {
            x.undo();
            sum += x.on(40, 1) + x.dry() + x.lowest(40) + x.ruined(i % 9) + x.may(i % 6, 12) + x.enough(0, 9);
            sum += x.lifted() + x.without(i % 6, 40) + x.wells(10) + x.share(1, 40, 0) + x.richest(40);
            sum += x.hidden(3, 0) + x.whose() + x.odds(20, 1) + x.mean(40, 0) + x.planned(0) + x.looked();
            sum += x.judge(2, 0) + x.act(i % 6, 2, i) + x.trace(1) + x.taken(1, 1) + x.count(6) + x.read(1, 1);
            sum += x.feed('s') + x.feed('p') + x.law() + x.day() + x.told(7) + x.of(1, 7) + x.shift(0, 0, 0, 1, 9);
            sum += x.tape(1, 1, 9) + x.item(1, 1, 8) + x.plan(-1, 0) + x.plan(1, 1) + x.see(-1, 0) + x.image();
        }
        return sum;
    }
}
