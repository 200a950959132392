/** Promises 2 and 3: feed and trim. */
final class TextTest {
    private static final int BLANKS = 0x20202020;

    public static void main(String[] args) {
        order();
        trimming();
        fullText();
        Bench.finish();
    }

    /** The highest byte of each comes first, and the five in their order. */
    private static void order() {
        VectorSolver solver = new VectorSolver();
        int assertOpen = '(' << 24 | 'a' << 16 | 's' << 8 | 's';
        int ert = 'e' << 24 | 'r' << 16 | 't' << 8 | ' ';
        int truth = 't' << 24 | 'r' << 16 | 'u' << 8 | 'e';
        Bench.due("feed", solver.feed(assertOpen, ert, truth, ')' << 24 | BLANKS >>> 8, BLANKS), 20);
        Bench.due("count(3)", solver.count(3), 20);
        Bench.due("read()", solver.read(), 1);
        Bench.due("count(2)", solver.count(2), 1);
        Bench.due("count(3) once it is used up", solver.count(3), 0);
        Bench.due("a byte above 127", signAt(solver, 0x80000000), "1 at 0");
        Bench.due("a byte above 127 behind blanks", signAt(solver, 0x202020FF), "1 at 3");
    }

    private static String signAt(VectorSolver solver, int first) {
        solver.feed(first, BLANKS, BLANKS, BLANKS, BLANKS);
        solver.read();
        return solver.fault(0) + " at " + solver.fault(1);
    }

    private static void trimming() {
        VectorSolver solver = new VectorSolver();
        Bench.dueCall("trim(0) of nothing", () -> solver.trim(0), 0);
        Bench.dueCall("trim(1) of nothing", () -> solver.trim(1), "argument");
        Bench.feed(solver, "(assert true) (assert false)(");
        Bench.due("count(3)", solver.count(3), 29);
        Bench.dueCall("trim(-1)", () -> solver.trim(-1), "argument");
        Bench.dueCall("trim(21)", () -> solver.trim(21), "argument");
        Bench.dueCall("trim(least)", () -> solver.trim(Integer.MIN_VALUE), "argument");
        Bench.dueCall("trim(most)", () -> solver.trim(Integer.MAX_VALUE), "argument");
        Bench.due("count(3) behind what threw", solver.count(3), 29);
        Bench.dueCall("trim(15)", () -> solver.trim(15), 14);
        Bench.dueCall("trim(15), of 14", () -> solver.trim(15), "argument");
        Bench.due("read()", solver.read(), 1);
        Bench.feed(solver, "(assert true)(assert");
        Bench.dueCall("trim(20)", () -> solver.trim(20), 0);
        Bench.due("read() of what is left", solver.read(), 0);
        Bench.due("count(2)", solver.count(2), 1);
    }

    private static void fullText() {
        VectorSolver solver = new VectorSolver();
        for (int i = 1; i <= 3276; i++) {
            Bench.due("feed " + i, solver.feed(BLANKS, BLANKS, BLANKS, BLANKS, BLANKS), 20 * i);
        }
        Bench.dueCall("feed beyond 65536", () -> solver.feed(0, 0, 0, 0, 0), "state");
        Bench.due("count(3) behind what threw", solver.count(3), 65520);
        Bench.dueCall("trim(3)", () -> solver.trim(3), 65517);
        Bench.dueCall("feed beyond 65536 by 1", () -> solver.feed(0, 0, 0, 0, 0), "state");
        Bench.dueCall("trim(1)", () -> solver.trim(1), 65516);
        int brackets = 0x28292828;
        Bench.dueCall("feed to 65536", () -> solver.feed(BLANKS, BLANKS, BLANKS, BLANKS, brackets), 65536);
        Bench.due("read()", solver.read(), VectorSolver.NONE);
        Bench.due("fault", solver.fault(0) + " at " + solver.fault(1), "4 at 65533");
        for (int i = 1; i <= 3276; i++) {
            solver.feed(0x29292929, 0x29292929, 0x29292929, 0x29292929, 0x29292929);
        }
        solver.trim(4);
        solver.feed(0x29292929, 0x29292929, 0x29292929, 0x29292929, 0x29292929);
        Bench.due("read() of as many brackets as there can be", solver.read(), VectorSolver.NONE);
        Bench.due("their fault", solver.fault(0) + " at " + solver.fault(1), "4 at 0");
    }
}
