import com.sun.management.ThreadMXBean;
import java.lang.management.ManagementFactory;
import java.lang.reflect.Array;
import java.lang.reflect.Field;
import java.lang.reflect.Modifier;
import java.util.ArrayDeque;
import java.util.Collections;
import java.util.Deque;
import java.util.IdentityHashMap;
import java.util.Set;

/** All calls of a run share one room: rows are made with the object, and no call makes another one. */
public final class RoomTest {
    private static final int MOST_OBJECTS = 100;
    private static final int MOST_NUMBERS = 11000;
    /** The first rows may make what the machine itself needs once: the least of all counts. */
    private static final int ROWS = 20;

    private static final String COUNTY = "downs 6 6;person 0 9 20;person 7 0 30;person 35 3 5;"
            + "ball 1 99 holds 99;ball 2 40;ball 8 60 holds 30;ball 9 9;ball 20 50;ball 30 99 holds 12;"
            + "rises not(temper<9)*(10-mild)+shouts-heard/3+day*0;bursts age-3 and near or 8<age;";

    /** How many objects and arrays an object has, itself too, and how many fields and elements. */
    private static int[] room(Object first) throws IllegalAccessException {
        Set<Object> seen = Collections.newSetFromMap(new IdentityHashMap<>());
        Deque<Object> todo = new ArrayDeque<>();
        int numbers = 0;
        seen.add(first);
        todo.add(first);
        while (!todo.isEmpty()) {
            Object one = todo.poll();
            if (one.getClass().isArray()) {
                numbers += Array.getLength(one);
                continue;
            }
            for (Field field : one.getClass().getDeclaredFields()) {
                if (!Modifier.isStatic(field.getModifiers())) {
                    numbers++;
                    field.setAccessible(true);
                    Object there = field.get(one);
                    if (!field.getType().isPrimitive() && there != null && seen.add(there)) {
                        todo.add(there);
                    }
                }
            }
        }
        return new int[] {seen.size(), numbers};
    }

    private static long allocated(ThreadMXBean counter) {
        return counter.getThreadAllocatedBytes(Thread.currentThread().getId());
    }

    private static int askAll(TemperDowns x) {
        int sum = 0;
        for (int what = 0; what <= 16; what++) {
            sum += x.count(what);
        }
        for (int what = 0; what <= 6; what++) {
            sum += x.person(0, what) + x.ball(0, what);
        }
        sum += x.then(0, 60, 0) + x.mood(0, 60, 0) + x.off(0) + x.first() + x.later(60, 0)
                + x.later(60, 3) + x.toGuard(0, 2) + x.fire(0, 0) + x.pram(0, 35, 1) + x.putBy(1)
                + x.put(1) + x.milder(0) + x.milder(2) + x.look(0) + x.boys(0, 5, 3) + x.game(0, 1, 1)
                + x.years(7, 60, 0) + x.cell(3, 0) + x.cell(3, 1) + x.when(0, 0) + x.ahead(60, 0)
                + x.ahead(60, 1) + x.stays(0, 60) + x.fault();
        return sum;
    }

    private static int actAll(TemperDowns x) {
        int sum = x.days(2) + x.tread(0) + x.carry(1, 5) + x.soothe(2, 50) + x.see(0, 8, true)
                + (x.guard(2, true) ? 1 : 0);
        x.image();
        sum += x.undo() + (x.restore() ? 1 : 0);
        x.forget();
        return sum;
    }

    private static int row(TemperDowns x, int[][] text) {
        int sum = 0;
        for (int[] five : text) {
            sum += x.feed(five[0], five[1], five[2], five[3], five[4]);
        }
        return sum + x.county(COUNTY.length()) + askAll(x) + actAll(x) + askAll(x);
    }

    private static void anObjectIsSmall() throws IllegalAccessException {
        int[] room = room(new TemperDowns());
        Due.is("few objects: " + room[0], room[0] <= MOST_OBJECTS, true);
        Due.is("few numbers: " + room[1], room[1] <= MOST_NUMBERS, true);
    }

    private static void callsKeepNothingMore() throws IllegalAccessException {
        TemperDowns x = new TemperDowns();
        int[] before = room(x);
        row(x, Text.rows(COUNTY));
        int[] after = room(x);
        Due.is("objects", after[0], before[0]);
        Due.is("fields and elements", after[1], before[1]);
    }

    private static void callsMakeNothing() {
        int[][] text = Text.rows(COUNTY);
        ThreadMXBean counter = (ThreadMXBean) ManagementFactory.getThreadMXBean();
        long least = Long.MAX_VALUE;
        for (int i = 0; i < ROWS; i++) {
            TemperDowns x = new TemperDowns();
            long before = allocated(counter);
            row(x, text);
            least = Math.min(least, allocated(counter) - before);
        }
        Due.is("bytes made by a row of calls", least, 0);
    }

    public static void main(String[] args) {
        Due.runAll(RoomTest.class);
    }
}
