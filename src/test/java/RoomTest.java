import java.lang.reflect.Array;
import java.lang.reflect.Field;
import java.lang.reflect.Modifier;
import java.util.ArrayDeque;
import java.util.Collections;
import java.util.Deque;
import java.util.IdentityHashMap;
import java.util.Set;

/** The room that an object takes: some 600,000 objects and arrays, 7.3 million fields and elements are there for all. */
public final class RoomTest {
    private static final Due DUE = new Due("RoomTest");

    public static void main(String[] args) throws IllegalAccessException {
        BedHouse x = new BedHouse();
        long[] first = room(x);
        DUE.holds("few objects and arrays: " + first[0], first[0] <= 20);
        DUE.holds("few fields and elements: " + first[1], first[1] <= 20000);
        dearestCalls(x);
        long[] last = room(x);
        DUE.is("objects behind 512 calls", first[0], last[0]);
        DUE.is("fields and elements behind 512 calls", first[1], last[1]);
        DUE.close();
    }

    /** 512 calls: four walls of which all may lie have the most houses, so each search goes through all. */
    private static void dearestCalls(BedHouse x) {
        int calls = 0;
        for (int round = 0; round < 4; round++) {
            DUE.is("items", 7, Due.tell(x, "wall 0;wall 1;wall 2;wall 3;down 4;hands 1;sun 0 8;"));
            x.keep(0);
            x.back(0);
            x.clue(round, 1);
            DUE.is("the next text", 15, Due.write(x, "rotten 8;wall 3"));
            x.clear();
            calls += 7 + 1 + 4 + 2;
            for (int i = 0; i < 14; i++) {
                x.down(i % 4);
                x.fewest(0);
                x.first(0);
                x.nights(0);
                x.piano(i % 8);
                x.best(i % 4);
                x.fit();
                x.sure(i % 4);
                calls += 8;
            }
            x.mark(4, 3);
            x.forget();
            calls += 2;
        }
        DUE.is("calls", 512, calls);
    }

    /** How many objects and arrays belong to an object, and how many fields and elements these have. */
    private static long[] room(Object root) throws IllegalAccessException {
        Set<Object> seen = Collections.newSetFromMap(new IdentityHashMap<>());
        Deque<Object> left = new ArrayDeque<>();
        left.add(root);
        seen.add(root);
        long cells = 0;
        while (!left.isEmpty()) {
            Object owner = left.remove();
            if (owner.getClass().isArray()) {
                cells += Array.getLength(owner);
                for (int i = 0; owner instanceof Object[] && i < Array.getLength(owner); i++) {
                    meet(((Object[]) owner)[i], seen, left);
                }
            } else {
                for (Field field : owner.getClass().getDeclaredFields()) {
                    if (!Modifier.isStatic(field.getModifiers())) {
                        cells++;
                        field.setAccessible(true);
                        meet(field.getType().isPrimitive() ? null : field.get(owner), seen, left);
                    }
                }
            }
        }
        return new long[] {seen.size(), cells};
    }

    private static void meet(Object object, Set<Object> seen, Deque<Object> left) {
        if (object != null && seen.add(object)) {
            left.add(object);
        }
    }
}
