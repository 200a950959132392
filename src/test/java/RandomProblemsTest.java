import java.math.BigInteger;
import java.util.List;

/** Promises 6 to 12 on random problems, held against one that tries all interpretations in turn. */
final class RandomProblemsTest {
    private static final int HEAVY = 12;
    private static int tooHeavy = 0;
    private static int yes = 0;
    private static int no = 0;

    public static void main(String[] args) {
        int many = args.length > 0 ? Integer.parseInt(args[0]) : 1500;
        long from = args.length > 1 ? Long.parseLong(args[1]) : 0;
        for (long seed = from; seed < from + many; seed++) {
            run(seed);
        }
        System.out.println(yes + " searches found one, " + no + " did not");
        Bench.due("that many searches find one and many don't", yes > many / 2 && no > many / 2, true);
        Bench.due("that few problems are too heavy", tooHeavy < many / 10, true);
        Bench.finish();
    }

    private static void run(long seed) {
        Problem problem = new Problem(seed, 9);
        VectorSolver solver = new VectorSolver();
        long found = -1;
        int foundSize = 0;
        int foundThings = 0;
        for (int round = 0; round < 3; round++) {
            String text = problem.grow(3 + (int) (seed % 4), 1 + (int) (seed % 3));
            String what = "problem " + seed + ": " + text;
            Bench.read(solver, text);
            if (solver.fault(0) == HEAVY) {
                tooHeavy++;
                return;
            }
            Bench.due(what + " fault", solver.fault(0) + " at " + solver.fault(1), "0 at -1");
            for (int turn = 0; turn < 4; turn++) {
                found = search(what + " turn " + turn, problem, solver, turn, found << problem.size() - foundSize);
                foundSize = problem.size();
                foundThings = problem.things.size();
                look(what + " turn " + turn, problem, solver, found, foundThings);
            }
        }
    }

    /** The first search goes on from what the last text left, the second one begins anew. */
    private static long search(String what, Problem problem, VectorSolver solver, int turn, long last) {
        if (turn == 3) {
            int name = (int) (Math.abs(last + 7) % Math.max(1, problem.names.size()));
            boolean bool = name < problem.names.size() && problem.names.get(name).sort.equals(Problem.Sort.BOOL);
            if (bool) {
                long due = problem.least(0, problem.names.get(name));
                Bench.dueCall(what + " suppose(" + name + ")", () -> solver.suppose(name), due >= 0);
                return counted(due);
            }
            Bench.dueCall(what + " suppose(" + name + ")", () -> solver.suppose(name), "argument");
        }
        if (turn == 1) {
            long due = problem.least(0, null);
            Bench.dueCall(what + " check()", solver::check, due >= 0);
            return counted(due);
        }
        long due = problem.least(last < 0 ? 0 : last + 1, null);
        Bench.dueCall(what + " more()", solver::more, due >= 0);
        return counted(due);
    }

    private static long counted(long due) {
        if (due < 0) {
            no++;
        } else {
            yes++;
        }
        return due;
    }

    private static void look(String what, Problem problem, VectorSolver solver, long found, int foundThings) {
        Bench.due(what + " missed()", solver.missed(), 0);
        Bench.due(what + " refused()", solver.refused(), 0);
        List<List<BigInteger>> values = problem.interpretation(Math.max(0, found));
        for (int thing = 0; thing < foundThings; thing++) {
            for (int cell = 0; cell < values.get(thing).size(); cell++) {
                int itsThing = thing;
                int itsCell = cell;
                Object due = found < 0 ? "state" : (Object) values.get(thing).get(cell).longValue();
                Bench.dueCall(what + " value(" + thing + ", " + cell + ")", () -> solver.value(itsThing, itsCell), due);
            }
        }
        for (int name = 0; name < problem.names.size(); name++) {
            int itsName = name;
            Problem.Node node = problem.names.get(name);
            Object due = node.sort.index() > 0 ? "argument"
                : found < 0 ? "state" : (Object) node.worth(values).get(0).longValue();
            Bench.dueCall(what + " named(" + name + ")", () -> solver.named(itsName), due);
        }
    }
}
