/** Promise 4: read, and what texts without a fault leave behind. */
final class ReadTest {
    public static void main(String[] args) {
        commands();
        blanksAndWords();
        names();
        lets();
        severalTexts();
        Bench.finish();
    }

    private static void dueRead(String text, int want) {
        VectorSolver solver = new VectorSolver();
        int got = Bench.read(solver, text);
        Bench.due(text, got + " fault " + solver.fault(0) + " at " + solver.fault(1), want + " fault 0 at -1");
        Bench.due("count(3) behind " + text, solver.count(3), 0);
    }

    private static void commands() {
        dueRead("", 0);
        dueRead(" \t\r\n", 0);
        dueRead("; nothing but a remark", 0);
        dueRead("(assert true)", 1);
        dueRead("(declare-const a Bool)(define-fun b () Bool a)(assert b)", 3);
        dueRead("(declare-const a (_ BitVec 1))(declare-const b (_ BitVec 64))", 2);
        dueRead("(declare-const a (Array (_ BitVec 1) (_ BitVec 1)))", 1);
        dueRead("(declare-const a (Array (_ BitVec 6) (_ BitVec 64)))", 1);
    }

    private static void blanksAndWords() {
        dueRead("(assert\ttrue\r\n)", 1);
        dueRead("\n(\nassert;x\u0080\u0000)(\n true;\n;;\n);end", 1);
        dueRead("(declare-const ~!@$%^&*_-+=<>.?/ Bool)(assert ~!@$%^&*_-+=<>.?/)", 2);
        String all = "azAZ09bcdefghijklmnopqrstuvwxyBCDEFGHIJKLMNOPQRSTUVWXY12345678";
        dueRead("(declare-const " + all + " Bool)(assert " + all + ")", 2);
        dueRead("(declare-const a#b Bool)(declare-const A#b Bool)(assert (xor a#b A#b))", 3);
        dueRead("(declare-const trues Bool)(declare-const tru Bool)(declare-const __ Bool)", 3);
        dueRead("(assert(= #b" + "1".repeat(64) + " #x" + "f".repeat(16) + " #xFFFFFFFFFFFFFFFF))", 1);
        dueRead("(assert(= ((_ extract 0 0) #b1)((_ zero_extend 0) #b0)((_ sign_extend 0) #b0)))", 1);
        dueRead("(assert (= ((_ zero_extend 63) #b1) ((_ sign_extend 60) #xf)))", 1);
    }

    private static void names() {
        VectorSolver solver = Bench.after(
            "(define-fun t () Bool true)(declare-const a Bool)(define-fun u () Bool (and t a))(declare-const b (_ BitVec 3))");
        Bench.due("terms", solver.count(0), 4);
        Bench.due("names", solver.count(1), 4);
        Bench.due("things", solver.count(4), 2);
        Bench.due("the name of thing 0", solver.thing(0, 3), 1);
        Bench.due("the name of thing 1", solver.thing(1, 3), 3);
    }

    /** A name or a let makes no term; a let's terms are read as outside of it; the innermost counts. */
    private static void lets() {
        VectorSolver solver = Bench.after("(declare-const x Bool)(declare-const y Bool)"
            + "(define-fun a () Bool (let ((x y) (y x)) (and x (not y))))"
            + "(define-fun b () Bool (let ((x true)) (let ((x false) (z x)) (and (not x) z))))"
            + "(define-fun c () Bool (let ((x (let ((x (not x))) (not x)))) x))"
            + "(define-fun d () Bool (and (let ((q x)) q) (let ((q y)) q)))"
            + "(define-fun e () Bool (let ((x #b10)) (= x #b10)))");
        Bench.due("names", solver.count(1), 7);
        Bench.due("terms", solver.count(0), 2 + 2 + 4 + 2 + 1 + 3);
        Bench.due("check()", solver.check(), true);
        Bench.due("b", solver.named(3), 1L);
        Bench.due("e", solver.named(6), 1L);
        Bench.due("more()", solver.more(), true);
        Bench.due("x, y", solver.value(0, 0) + " " + solver.value(1, 0), "0 1");
        Bench.due("a where y alone is true", solver.named(2), 1L);
        Bench.due("c where x is false", solver.named(4), 0L);
        Bench.due("more()", solver.more(), true);
        Bench.due("a where x alone is true", solver.named(2), 0L);
        Bench.due("c where x is true", solver.named(4), 1L);
        Bench.due("d where x alone is true", solver.named(5), 0L);
    }

    /** Texts come one behind the other; of one with a fault nothing counts. */
    private static void severalTexts() {
        VectorSolver solver = Bench.after("(declare-const x (_ BitVec 2))(assert (bvugt x #b01))");
        String before = Bench.state(solver);
        Bench.due("read()", Bench.read(solver, "(declare-const y Bool)(assert y)(define-fun z () Bool y)(assert x)"), -1);
        Bench.due("fault", solver.fault(0) + " at " + solver.fault(1), "9 at 64");
        Bench.due("read() of nothing", solver.read(), 0);
        Bench.due("the state", Bench.state(solver), before);
        Bench.due("read()", Bench.read(solver, "(declare-const z Bool)(define-fun y () (_ BitVec 2) (bvnot x))(assert z)"), 3);
        Bench.due("names", solver.count(1), 3);
        Bench.due("things", solver.count(4), 2);
        Bench.due("assertions", solver.count(2), 2);
        Bench.due("check()", solver.check(), true);
        Bench.due("x", solver.value(0, 0), 2L);
        Bench.due("z", solver.named(1), 1L);
        Bench.due("y", solver.named(2), 1L);
    }
}
