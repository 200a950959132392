/** What each kind of term weighs, by count(6). */
final class WeightTest {
    private static final String KNOWN = "(declare-const p Bool)(declare-const v (_ BitVec 5))"
        + "(declare-const a (Array (_ BitVec 3) (_ BitVec 5)))(declare-const i (_ BitVec 3))";

    public static void main(String[] args) {
        Bench.due("the weight of " + KNOWN, Bench.after(KNOWN).count(6), 1 + 5 + 40 + 3);
        int w = 5;
        due("true", 1);
        due("#b00101", 5);
        due("#xABC", 12);
        due("(not p)", 1);
        due("(bvnot v)", w);
        for (String op : "and or xor =>".split(" ")) {
            due("(" + op + " p p)", 4);
            due("(" + op + " p p p)", 8);
        }
        for (String op : "bvand bvor bvxor".split(" ")) {
            due("(" + op + " v v)", 4 * w);
            due("(" + op + " v v v v)", 12 * w);
        }
        due("(ite p p p)", 4);
        due("(ite p v v)", 4 * w);
        due("(ite p a a)", 4 * 40);
        due("(= p p)", 5);
        due("(= v v v)", 10 * w);
        due("(= a a)", 200);
        due("(distinct p p)", 10);
        due("(distinct v v v)", 30 * w);
        due("(distinct a a)", 400);
        due("(bvneg v)", 10 * w);
        due("(bvadd v v)", 10 * w);
        due("(bvadd v v v)", 20 * w);
        due("(bvsub v v)", 10 * w);
        for (String op : "bvult bvule bvugt bvuge bvslt bvsle bvsgt bvsge".split(" ")) {
            due("(" + op + " v v)", 10 * w);
        }
        due("(bvmul v v)", 14 * w * w);
        due("(bvmul v v v)", 28 * w * w);
        due("(bvudiv v v)", 16 * w * w + 32 * w);
        due("(bvurem v v)", 16 * w * w + 32 * w);
        due("(bvsdiv v v)", 16 * w * w + 80 * w);
        due("(bvsrem v v)", 16 * w * w + 80 * w);
        due("(bvshl v v)", 30 * w);
        due("(bvlshr v v)", 30 * w);
        due("(bvashr v v)", 30 * w);
        due("(concat v i v)", 13);
        due("((_ extract 3 1) v)", 3);
        due("((_ zero_extend 7) v)", 12);
        due("((_ sign_extend 0) v)", 5);
        due("(select a i)", 8 * 40);
        due("(store a i v)", 8 * 40);
        due("(let ((x v)) x)", 0);
        due("(let ((x (bvnot v))) (bvand x x))", 5 * w);
        Bench.finish();
    }

    /** Asked before the sort is: the term is bound by a let that leaves it out. */
    private static void due(String term, int want) {
        VectorSolver solver = Bench.after(KNOWN);
        int before = solver.count(6);
        Bench.due("read() of " + term, Bench.read(solver, "(assert (let ((unused " + term + ")) p))"), 1);
        Bench.due("the weight of " + term, solver.count(6) - before, want);
    }
}
