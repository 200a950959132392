/** Promise 1: nothing is there, and what can be asked of nothing. */
final class NewObjectTest {
    public static void main(String[] args) {
        VectorSolver solver = new VectorSolver();
        for (int what = 0; what < 7; what++) {
            Bench.due("count(" + what + ")", solver.count(what), 0);
        }
        Bench.due("fault(0)", solver.fault(0), 0);
        Bench.due("fault(1)", solver.fault(1), VectorSolver.NONE);
        Bench.due("missed()", solver.missed(), 0);
        Bench.due("refused()", solver.refused(), 0);
        Bench.dueCall("value(0, 0)", () -> solver.value(0, 0), "argument");
        Bench.dueCall("named(0)", () -> solver.named(0), "argument");
        Bench.dueCall("thing(0, 0)", () -> solver.thing(0, 0), "argument");
        Bench.dueCall("suppose(0)", () -> solver.suppose(0), "argument");
        Bench.due("read() of no text", solver.read(), 0);
        Bench.due("check()", solver.check(), true);
        Bench.due("more(), as there is but one interpretation", solver.more(), false);
        Bench.due("more() once none is found", solver.more(), true);
        Bench.due("NONE", VectorSolver.NONE, -1);
        Bench.finish();
    }
}
