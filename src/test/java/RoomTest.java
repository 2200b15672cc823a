import java.lang.reflect.Array;
import java.lang.reflect.Field;
import java.lang.reflect.Modifier;
import java.util.ArrayDeque;
import java.util.Collections;
import java.util.Deque;
import java.util.IdentityHashMap;
import java.util.Set;

/** How much room an object takes: little enough that 512 of them fit in the one room, and no more by its calls. */
public final class RoomTest {
    private static final int ELEMENTS_MOST = 7_300_000 / 512 / 2;
    private static final int OBJECTS_MOST = 600_000 / 512 / 2;

    public static void main(String[] args) throws IllegalAccessException {
        StoreStreams x = new StoreStreams();
        int[] first = room(x);
        System.out.println("RoomTest: " + first[0] + " objects, " + first[1] + " fields and elements");
        Check.due("objects of a new one", first[0] <= OBJECTS_MOST ? 1 : first[0], 1);
        Check.due("elements of a new one", first[1] <= ELEMENTS_MOST ? 1 : first[1], 1);
        use(x);
        int[] then = room(x);
        Check.due("objects behind calls", then[0], first[0]);
        Check.due("elements behind calls", then[1], first[1]);
        Check.end("RoomTest");
    }

    private static void use(StoreStreams x) {
        for (int k = 0; k < 20; k++) {
            Check.read(x, "store a=10;number n=4;stream f from a to out=n;delay d=2 of a;table t=0:0,9:9;");
            x.run(5);
            x.event(9, 1, 3);
            x.keep();
            x.prove(0);
            x.sheet(k % 4, k % 4, 40);
            x.shelf(k % 4, 0, k % 5);
            x.act(k % 4, k % 4, k);
            x.rest(200);
            x.best(1, 0, 20, 0, 60);
            x.rings();
            x.back();
        }
    }

    private static int[] room(Object from) throws IllegalAccessException {
        Set<Object> seen = Collections.newSetFromMap(new IdentityHashMap<>());
        Deque<Object> open = new ArrayDeque<>();
        open.add(from);
        seen.add(from);
        int elements = 0;
        while (!open.isEmpty()) {
            Object one = open.poll();
            if (one.getClass().isArray()) {
                elements += Array.getLength(one);
                if (one instanceof Object[] objects) for (Object part : objects) meet(part, seen, open);
                continue;
            }
            for (Class<?> sort = one.getClass(); sort != Object.class; sort = sort.getSuperclass()) {
                for (Field field : sort.getDeclaredFields()) {
                    if (Modifier.isStatic(field.getModifiers())) continue;
                    elements++;
                    field.setAccessible(true);
                    if (!field.getType().isPrimitive()) meet(field.get(one), seen, open);
                }
            }
        }
        return new int[] {seen.size(), elements};
    }

    private static void meet(Object part, Set<Object> seen, Deque<Object> open) {
        if (part != null && seen.add(part)) open.add(part);
    }
}
