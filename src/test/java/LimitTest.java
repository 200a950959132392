/** Promise 5 at the document's limits: DEEP, FULL and HEAVY. */
final class LimitTest {
    private static final int MANY = 8;
    private static final int SORTS = 9;
    private static final int DEEP = 10;
    private static final int FULL = 11;
    private static final int HEAVY = 12;

    public static void main(String[] args) {
        deep();
        bound();
        arguments();
        terms();
        assertions();
        names();
        nameBytes();
        heavy();
        Bench.finish();
    }

    private static void due(VectorSolver solver, String text, int kind, int place) {
        int got = Bench.read(solver, text);
        String shown = text.length() < 90 ? text : text.substring(0, 90) + " ..";
        Bench.due(shown, (got < 0) + " fault " + solver.fault(0) + " at " + solver.fault(1),
            (kind != 0) + " fault " + kind + " at " + place);
    }

    private static void due(String text, int kind, int place) {
        due(new VectorSolver(), text, kind, place);
    }

    private static void deep() {
        String open = "(not ".repeat(59);
        due("(assert " + open + "true" + ")".repeat(60), 0, -1);
        due("(assert " + open + "(not true" + ")".repeat(61), DEEP, 8 + 5 * 59);
        due("(assert " + open + "((_ zero_extend", DEEP, 8 + 5 * 59);
        due("(assert " + "(not ".repeat(58) + "((_ zero_extend 0) true)", DEEP, 8 + 5 * 58 + 1);
        due("(assert " + "(not ".repeat(57) + "((_ zero_extend 0) true)", SORTS, 8 + 5 * 57);
        due("(assert " + open + "true (", DEEP, 8 + 5 * 59 + 5);
        due("(assert " + "(not ".repeat(58) + "(let (", DEEP, 8 + 5 * 58 + 5);
        due("(assert (and " + "(not true) ".repeat(39) + "true))(assert " + open + "true" + ")".repeat(60), 0, -1);
    }

    private static String bindings(int from, int to) {
        StringBuilder all = new StringBuilder();
        for (int i = from; i < to; i++) {
            all.append("(b").append(i).append(" true)");
        }
        return all.toString();
    }

    private static void bound() {
        due("(assert (let (" + bindings(0, 16) + ") b15))", 0, -1);
        String one = "(assert (let (" + bindings(0, 16) + "(b16 true)) b16))";
        due(one, FULL, one.indexOf("b16"));
        due(one.replace("b16", "let"), 6, one.indexOf("b16"));
        due(one.replace("b16", "b3"), 6, one.indexOf("b16"));
        String inner = "(assert (let (" + bindings(0, 10) + ") (let (" + bindings(10, 16) + "(b16 true)) b0)))";
        due(inner, FULL, inner.indexOf("b16"));
        String again = "(assert (and (let (" + bindings(0, 16) + ") b0) (let (" + bindings(0, 16) + ") b0)))";
        due(again, 0, -1);
        // Those that are just being bound count, the one whose term is read with them.
        String within = "(assert (let (" + bindings(0, 15) + "(b15 (let ((b16 true)) b16))) b0))";
        due(within, FULL, within.indexOf("b16"));
        due(within.replace("(b14 true)", ""), 0, -1);
        due("(assert (let " + "((x (let ".repeat(16) + "((x true)) x))", FULL, 13 + 9 * 16 + 2);
    }

    private static void arguments() {
        due("(assert (and" + " true".repeat(40) + "))", 0, -1);
        due("(assert (and" + " true".repeat(41) + "))", FULL, 8);
        due("(assert (and" + " true".repeat(41) + " :", FULL, 8);
        due("(assert (and" + " true".repeat(40) + " (not #b1)))", SORTS, 8 + 4 + 5 * 40 + 1);
        due("(assert (not" + " true".repeat(40) + "))", MANY, 8);
        due("(assert (not" + " true".repeat(41) + "))", FULL, 8);
        due("(assert ((_ zero_extend 1)" + " true".repeat(41) + "))", FULL, 8);
        String most = "(and" + " p".repeat(39) + " ";
        VectorSolver solver = Bench.after("(declare-const p Bool)(assert " + most.repeat(59) + "p" + ")".repeat(60));
        Bench.due("terms", solver.count(0), 60);
        Bench.due("check()", solver.check(), true);
        Bench.due("p", solver.value(0, 0), 1L);
    }

    /** 40 terms each, 50 times. */
    private static String ofTerms() {
        return ("(assert (=" + " #b1".repeat(39) + "))").repeat(50);
    }

    private static void terms() {
        VectorSolver solver = new VectorSolver();
        due(solver, ofTerms(), 0, -1);
        Bench.due("terms", solver.count(0), 2000);
        due(solver, "(assert true)", FULL, 8);
        due(solver, "(assert #b0)", FULL, 8);
        due(solver, "(assert #xf)", FULL, 8);
        due(solver, "(declare-const x Bool)", FULL, 15);
        due(solver, "(declare-const x Bool x", FULL, 15);
        due(solver, "(declare-const x bool)", 4, 17);
        Bench.due("terms", solver.count(0), 2000);
        VectorSolver other = new VectorSolver();
        due(other, "(declare-const x (_ BitVec 64))(define-fun y () Bool (= x x))", 0, -1);
        due(other, ofTerms(), FULL, 50 * 168 - 5);
        due(other, ofTerms().substring(0, ofTerms().length() - 4 - 2) + "))", FULL, 49 * 168 + 8);
        due(other, ofTerms().substring(0, ofTerms().length() - 4 * 5 - 2) + "))", 0, -1);
        due(other, "(assert y)(assert (let ((z y)) z))", 0, -1);
        Bench.due("terms", other.count(0), 1997);
        due(other, "(assert (not y))(assert (not (not y)))(assert (not y))", FULL, 46);
        due(other, "(assert (not (not (not y))))(assert (not x))", SORTS, 36);
        due(other, "(assert (not (not (not y))))(assert (not y y))", MANY, 36);
        due(other, "(assert (not (not (not y))))(assert (= x (bvmul x x)))", FULL, 41);
    }

    private static void assertions() {
        VectorSolver solver = new VectorSolver();
        due(solver, "(declare-const p Bool)" + "(assert p)".repeat(499), 0, -1);
        due(solver, "(assert p)(assert p)", FULL, 18);
        Bench.due("assertions", solver.count(2), 499);
        due(solver, "(assert p)(assert (not p)", FULL, 18);
        due(solver, "(assert p)(assert #b1)", SORTS, 18);
        due(solver, "(assert p)", 0, -1);
        Bench.due("assertions", solver.count(2), 500);
        due(solver, "(assert p)", FULL, 8);
        Bench.due("check()", solver.check(), true);
        Bench.due("suppose(0)", solver.suppose(0), true);
    }

    private static void names() {
        VectorSolver solver = new VectorSolver();
        StringBuilder text = new StringBuilder("(define-fun n0 () Bool true)");
        for (int i = 1; i < 500; i++) {
            text.append("(define-fun n").append(i).append(" () Bool n0)");
        }
        due(solver, text.toString(), 0, -1);
        Bench.due("names", solver.count(1), 500);
        due(solver, "(define-fun x :", FULL, 12);
        due(solver, "(declare-const x Bool)", FULL, 15);
        due(solver, "(declare-const n1 Bool)", 6, 15);
        Bench.due("named(499)", solver.check() ? solver.named(499) : -1L, 1L);
    }

    /** Beyond what 512 calls can feed, but the document tells the limit. */
    private static void nameBytes() {
        VectorSolver solver = new VectorSolver();
        due(solver, "(declare-const " + "x".repeat(60000) + " Bool)", 0, -1);
        due(solver, "(declare-const " + "y".repeat(5537) + " Bool)", FULL, 15);
        due(solver, "(declare-const " + "y".repeat(5536) + " Bool)(assert " + "y".repeat(5536) + ")", 0, -1);
        due(solver, "(declare-const z Bool)", FULL, 15);
    }

    private static void heavy() {
        VectorSolver solver = new VectorSolver();
        StringBuilder arrays = new StringBuilder();
        for (int i = 0; i < 24; i++) {
            arrays.append("(declare-const a").append((char) ('a' + i)).append(" (Array (_ BitVec 6) (_ BitVec 64)))");
        }
        due(solver, arrays.toString(), 0, -1);
        Bench.due("the weight", solver.count(6), 24 * 4096);
        due(solver, "(declare-const x (Array (_ BitVec 6) (_ BitVec 64)))", HEAVY, 15);
        due(solver, "(declare-const x (Array (_ BitVec 6) (_ BitVec 64)) :", HEAVY, 15);
        due(solver, "(declare-const x (_ BitVec 64))(declare-const y (_ BitVec 32))"
            + "(assert (= ((_ extract 63 32) (bvmul x x)) y))", HEAVY, 92);
        due(solver, "(assert (select aa))", MANY, 8);
        due(solver, "(assert (select aa #b111111))", HEAVY, 8);
        due(solver, "(declare-const x (_ BitVec 64))(define-fun y () (_ BitVec 64) (bvadd x x))", 0, -1);
        Bench.due("the weight", solver.count(6), 24 * 4096 + 64 + 640);
        due(solver, "(assert (= x x x x x))", HEAVY, 8);
        due(solver, "(assert (= x x x))(assert true)(define-fun z () (_ BitVec 64) ((_ extract 63 0) x))", 0, -1);
        Bench.due("the weight", solver.count(6), 24 * 4096 + 64 + 640 + 640 + 1 + 64);
        due(solver, "(define-fun u () (_ BitVec 64) (bvnot x))(define-fun t () (_ BitVec 64) (bvnot x))"
            + "(define-fun s () (_ BitVec 64) (bvnot x))(define-fun r () (_ BitVec 64) (bvnot x))"
            + "(define-fun o () (_ BitVec 31) ((_ extract 30 0) x))", 0, -1);
        Bench.due("the weight", solver.count(6), 100000);
        due(solver, "(assert true)", HEAVY, 8);
        due(solver, "(declare-const p Bool)", HEAVY, 15);
    }
}
