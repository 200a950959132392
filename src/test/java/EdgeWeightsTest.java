/** Boundary cases of weights: the narrowest and the widest sorts, the fewest arguments and the most. */
final class EdgeWeightsTest {
    private static final String KNOWN = "(declare-const p Bool)(declare-const b (_ BitVec 1))(declare-const w (_ BitVec 64))"
        + "(declare-const a (Array (_ BitVec 1) (_ BitVec 1)))(declare-const i (_ BitVec 6))";
    private static final String WIDEST = "(declare-const p Bool)(declare-const a (Array (_ BitVec 6) (_ BitVec 64)))(declare-const i (_ BitVec 6))"
        + "(declare-const w (_ BitVec 64))";

    public static void main(String[] args) {
        nothing();
        thingsAndConstants();
        namesAndLets();
        bools();
        narrowest();
        widest();
        mostArguments();
        reshaped();
        ownWidthAndNotTheFirst();
        arrays();
        widestArrays();
        Bench.finish();
    }

    private static void due(String known, String term, int want) {
        VectorSolver solver = Edge.of(known);
        int before = solver.count(6);
        Edge.good(solver, 1, "(assert (let ((unused " + term + ")) p))");
        Bench.due("the weight of " + term, solver.count(6) - before, want);
    }

    private static void due(String term, int want) {
        due(KNOWN, term, want);
    }

    private static void nothing() {
        Bench.due("the weight of nothing", new VectorSolver().count(6), 0);
    }

    /** Their size. */
    private static void thingsAndConstants() {
        String[] sorts = {"Bool", "(_ BitVec 1)", "(_ BitVec 64)", "(Array (_ BitVec 1) (_ BitVec 1))", "(Array (_ BitVec 1) (_ BitVec 64))",
            "(Array (_ BitVec 6) (_ BitVec 1))", "(Array (_ BitVec 6) (_ BitVec 64))"};
        int[] sizes = {1, 1, 64, 2, 128, 64, 4096};
        for (int k = 0; k < sorts.length; k++) {
            VectorSolver solver = Edge.of("(declare-const x " + sorts[k] + ")");
            Bench.due("the weight of " + sorts[k], solver.count(6), sizes[k]);
            Bench.due("the SIZE of " + sorts[k], solver.count(5), sizes[k]);
        }
        due("true", 1);
        due("false", 1);
        due("#b0", 1);
        due("#b" + "1".repeat(64), 64);
        due("#x0", 4);
        due("#x" + "f".repeat(16), 64);
    }

    private static void namesAndLets() {
        due("p", 0);
        due("w", 0);
        due("(let ((x w)) x)", 0);
        VectorSolver solver = Edge.of(KNOWN);
        int before = solver.count(6);
        Edge.good(solver, 2, "(define-fun x () (_ BitVec 64) w)(assert p)");
        Bench.due("the weight of a name and an assertion", solver.count(6) - before, 0);
    }

    private static void bools() {
        due("(not p)", 1);
        for (String op : "and or xor =>".split(" ")) {
            due("(" + op + " p p)", 4);
            due("(" + op + " p p p)", 8);
        }
        due("(ite p p p)", 4);
        due("(= p p)", 5);
        due("(distinct p p)", 10);
        due("(distinct p p p)", 30);
    }

    /** w is 1. */
    private static void narrowest() {
        due("(bvnot b)", 1);
        due("(bvneg b)", 10);
        due("(bvand b b)", 4);
        due("(bvor b b)", 4);
        due("(bvxor b b)", 4);
        due("(bvadd b b)", 10);
        due("(bvsub b b)", 10);
        due("(bvmul b b)", 14);
        due("(bvudiv b b)", 48);
        due("(bvurem b b)", 48);
        due("(bvsdiv b b)", 96);
        due("(bvsrem b b)", 96);
        due("(bvshl b b)", 30);
        due("(bvlshr b b)", 30);
        due("(bvashr b b)", 30);
        due("(bvult b b)", 10);
        due("(bvsge b b)", 10);
        due("(ite p b b)", 4);
        due("(= b b)", 5);
        due("(distinct b b)", 10);
    }

    /** w is 64. */
    private static void widest() {
        due("(bvnot w)", 64);
        due("(bvneg w)", 640);
        due("(bvand w w)", 256);
        due("(bvadd w w)", 640);
        due("(bvsub w w)", 640);
        due("(bvmul w w)", 57344);
        due("(bvudiv w w)", 67584);
        due("(bvurem w w)", 67584);
        due("(bvsdiv w w)", 70656);
        due("(bvsrem w w)", 70656);
        due("(bvshl w w)", 1920);
        due("(bvlshr w w)", 1920);
        due("(bvashr w w)", 1920);
        for (String op : "bvult bvule bvugt bvuge bvslt bvsle bvsgt bvsge".split(" ")) {
            due("(" + op + " w w)", 640);
        }
        due("(ite p w w)", 256);
        due("(= w w)", 320);
        due("(distinct w w)", 640);
    }

    /** n is 40. */
    private static void mostArguments() {
        due("(and" + " p".repeat(40) + ")", 156);
        due("(=>" + " p".repeat(40) + ")", 156);
        due("(=" + " p".repeat(40) + ")", 195);
        due("(distinct" + " p".repeat(40) + ")", 7800);
        due("(bvxor" + " w".repeat(40) + ")", 9984);
        due("(bvadd" + " w".repeat(40) + ")", 24960);
        due("(bvmul" + " b".repeat(40) + ")", 546);
        due("(=" + " w".repeat(40) + ")", 12480);
        due("(concat" + " b".repeat(40) + ")", 40);
    }

    private static void reshaped() {
        due("(concat b b)", 2);
        due("(concat b ((_ extract 62 0) w))", 64 + 63);
        due("((_ extract 0 0) w)", 1);
        due("((_ extract 63 63) w)", 1);
        due("((_ extract 63 0) w)", 64);
        due("((_ zero_extend 0) w)", 64);
        due("((_ zero_extend 63) b)", 64);
        due("((_ sign_extend 0) b)", 1);
        due("((_ sign_extend 63) b)", 64);
    }

    /** ite is weighed by its second argument, concat, extract and the extensions by themselves. */
    private static void ownWidthAndNotTheFirst() {
        due("(ite p a a)", 8);
        due("(concat i b b)", 8);
        due("((_ extract 5 1) i)", 5);
        due("((_ zero_extend 1) i)", 7);
    }

    private static void arrays() {
        due("(select a b)", 16);
        due("(store a b b)", 16);
        due("(= a a)", 10);
        due("(distinct a a)", 20);
        due("(distinct a a a)", 60);
        due("(ite p a a)", 8);
    }

    private static void widestArrays() {
        due(WIDEST, "(select a i)", 32768);
        due(WIDEST, "(store a i w)", 32768);
        due(WIDEST, "(= a a)", 20480);
        due(WIDEST, "(= a a a a a)", 81920);
        due(WIDEST, "(distinct a a)", 40960);
        due(WIDEST, "(ite p a a)", 16384);
    }
}
