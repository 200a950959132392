import java.lang.reflect.Array;
import java.lang.reflect.Field;
import java.lang.reflect.Modifier;
import java.util.ArrayDeque;
import java.util.Collections;
import java.util.IdentityHashMap;
import java.util.Set;

/** All memory is made at first: what an object holds is small, and no call makes it another. */
final class RoomTest {
    public static void main(String[] args) throws IllegalAccessException {
        VectorSolver solver = new VectorSolver();
        Set<Object> before = held(solver);
        Bench.due("that it holds some 500000 fields and elements at most", elements(before) < 500000, true);
        Bench.read(solver, "(declare-const x (_ BitVec 16))(assert (= (bvmul x x) #x0001))(define-fun p () Bool (bvult x #x000F))");
        Bench.read(solver, "(assert (let ((y (bvadd x x))) (= y (bvshl x #x0001))))");
        Bench.read(solver, "(assert :");
        for (int i = 0; i < 20; i++) {
            solver.more();
            solver.suppose(1);
            solver.named(1);
        }
        Set<Object> behind = held(solver);
        Bench.due("what it holds", behind.size() == before.size() && behind.containsAll(before), true);
        Bench.finish();
    }

    private static Set<Object> held(Object root) throws IllegalAccessException {
        Set<Object> seen = Collections.newSetFromMap(new IdentityHashMap<>());
        ArrayDeque<Object> open = new ArrayDeque<>();
        open.add(root);
        while (!open.isEmpty()) {
            Object next = open.remove();
            if (seen.add(next) && !next.getClass().isArray()) {
                for (Field field : next.getClass().getDeclaredFields()) {
                    if (!field.getType().isPrimitive() && !Modifier.isStatic(field.getModifiers())) {
                        field.setAccessible(true);
                        open.add(field.get(next));
                    }
                }
            }
        }
        return seen;
    }

    private static long elements(Set<Object> all) {
        long sum = 0;
        for (Object each : all) {
            sum += each.getClass().isArray() ? Array.getLength(each) : each.getClass().getDeclaredFields().length;
        }
        System.out.println(all.size() + " objects and arrays, " + sum + " fields and elements");
        return sum;
    }
}
