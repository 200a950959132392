import java.lang.reflect.Field;
import java.lang.reflect.Method;
import java.util.Random;

/** Promise 12: the checker follows nothing that is not so, and all that says no more than one trial did. */
final class CheckerTest {
    private static final int SIZE = 7;
    private static int followed = 0;
    private static int refused = 0;

    public static void main(String[] args) throws ReflectiveOperationException {
        int many = args.length > 0 ? Integer.parseInt(args[0]) : 1500;
        for (int seed = 0; seed < many; seed++) {
            falseGoals(seed);
        }
        Bench.due("that much is followed and much refused", followed > many && refused > many, true);
        bounds();
        joins();
        misled();
        Bench.finish();
    }

    private static Object part(Object of, String name) throws ReflectiveOperationException {
        Field field = of.getClass().getDeclaredField(name);
        field.setAccessible(true);
        return field.get(of);
    }

    private static Method method(Object of, String name, int parameters) throws ReflectiveOperationException {
        Class<?>[] ints = new Class<?>[parameters];
        java.util.Arrays.fill(ints, int.class);
        Method method = of.getClass().getDeclaredMethod(name, ints);
        method.setAccessible(true);
        return method;
    }

    private static void falseGoals(int seed) throws ReflectiveOperationException {
        Problem problem = new Problem(seed, SIZE);
        VectorSolver solver = new VectorSolver();
        String text = problem.grow(8, 1 + seed % 4);
        if (Bench.read(solver, text) < 0) {
            return;
        }
        Object checker = part(part(solver, "search"), "checker");
        Method follows = method(checker, "followsFalse", 4);
        int[] asserted = (int[]) part(part(solver, "book"), "asserted");
        int size = problem.size();
        int all = (1 << size) - 1;
        Random random = new Random(seed);
        for (int i = 0; i < solver.count(2); i++) {
            boolean[] isFalse = new boolean[1 << size];
            for (int at = 0; at <= all; at++) {
                isFalse[at] = problem.assertions.get(i).worth(problem.interpretation(at)).get(0).signum() == 0;
                boolean got = (Boolean) follows.invoke(checker, asserted[i], all, at, size);
                Bench.due("all bits " + at + " of assertion " + i + " in " + text, got, isFalse[at]);
            }
            for (int turn = 0; turn < 40; turn++) {
                int mask = (random.nextInt() | random.nextInt()) & all;
                int held = random.nextInt() & mask;
                if ((Boolean) follows.invoke(checker, asserted[i], mask, held, size)) {
                    followed++;
                    Bench.due("mask " + mask + " held " + held + " of assertion " + i + " in " + text,
                        isAlwaysFalse(isFalse, mask, held), true);
                } else {
                    refused++;
                }
            }
        }
    }

    private static boolean isAlwaysFalse(boolean[] isFalse, int mask, int held) {
        for (int at = 0; at < isFalse.length; at++) {
            if ((at & mask) == held && !isFalse[at]) {
                return false;
            }
        }
        return true;
    }

    /** What has the bits that are held must be less than the start. */
    private static void bounds() throws ReflectiveOperationException {
        Object checker = part(part(new VectorSolver(), "search"), "checker");
        Method follows = method(checker, "followsBound", 4);
        for (int start = 0; start < 16; start++) {
            for (int mask = 0; mask < 16; mask++) {
                for (int held = mask;; held = held - 1 & mask) {
                    boolean less = true;
                    for (int at = 0; at < 16; at++) {
                        less &= (at & mask) != held || at < start;
                    }
                    boolean got = (Boolean) follows.invoke(checker, mask, held, start, 4);
                    Bench.due("bound " + start + " mask " + mask + " held " + held, got, less);
                    if (held == 0) {
                        break;
                    }
                }
            }
        }
    }

    /** Whatever has the joined bits has those of the first or those of the second. */
    private static void joins() throws ReflectiveOperationException {
        Object checker = part(part(new VectorSolver(), "search"), "checker");
        Method follows = method(checker, "followsBoth", 6);
        Random random = new Random(1);
        int seen = 0;
        for (int turn = 0; turn < 200000; turn++) {
            int bit = 1 << random.nextInt(4);
            int mask = random.nextInt(16);
            int held = random.nextInt(16) & mask;
            int otherMask = random.nextInt(16);
            int otherHeld = random.nextInt(16) & otherMask;
            int joined = turn % 2 == 0 ? (mask | otherMask) & ~bit : random.nextInt(16);
            if ((Boolean) follows.invoke(checker, bit, mask, held, otherMask, otherHeld, joined)) {
                seen++;
                int joinedHeld = (held | otherHeld) & joined;
                for (int at = 0; at < 16; at++) {
                    boolean ruledOut = (at & mask) == held || (at & otherMask) == otherHeld;
                    Bench.due("joined of " + mask + " and " + otherMask + " at " + at, (at & joined) != joinedHeld || ruledOut, true);
                }
            }
        }
        Bench.due("that some are followed", seen > 1000, true);
    }

    /**
     * A learner that is shown wrong values learns what is not so: the checker follows none of that, refused()
     * counts it over all searches, and what is found is right all the same.
     */
    private static void misled() throws ReflectiveOperationException {
        int sum = 0;
        for (int seed = 0; seed < 400; seed++) {
            Problem problem = new Problem(seed, SIZE);
            VectorSolver solver = new VectorSolver();
            String text = problem.grow(8, 1 + seed % 4);
            if (Bench.read(solver, text) < 0) {
                continue;
            }
            Object learner = part(part(solver, "search"), "learner");
            Field worth = learner.getClass().getDeclaredField("worth");
            worth.setAccessible(true);
            worth.set(learner, new long[2000]);
            int before = 0;
            long found = -1;
            for (int turn = 0; turn < 4; turn++) {
                found = problem.least(found + 1, null);
                Bench.due("more() of a misled search in " + text, solver.more(), found >= 0);
                if (found >= 0) {
                    Bench.due("what it found in " + text, number(solver), found);
                }
                Bench.due("missed()", solver.missed(), 0);
                Bench.due("that refused() only grows", solver.refused() >= before, true);
                before = solver.refused();
            }
            sum += before;
        }
        Bench.due("that much was refused", sum > 400, true);
    }

    /** What was found as one number, the things in their order from its highest bit on. */
    private static long number(VectorSolver solver) {
        long all = 0;
        for (int thing = 0; thing < solver.count(4); thing++) {
            for (int cell = 0; cell < 1 << solver.thing(thing, 2); cell++) {
                all = all << Math.max(1, solver.thing(thing, 1)) | solver.value(thing, cell);
            }
        }
        return all;
    }
}
