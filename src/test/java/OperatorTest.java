/** What operators are worth, at the edges that the document tells; by named. */
final class OperatorTest {
    private static final String MOST = "#xFFFFFFFFFFFFFFFF";
    private static final String LEAST = "#x8000000000000000";
    private static final String ONE = "#x0000000000000001";
    private static final String ZERO = "#x0000000000000000";
    private static final String THREE = "#x0000000000000003";

    public static void main(String[] args) {
        bools();
        narrow();
        wide();
        shifts();
        comparisons();
        shapes();
        arrays();
        Bench.finish();
    }

    private static void due(String sort, String term, long want) {
        VectorSolver solver = Bench.after("(define-fun it () " + sort + " " + term + ")");
        solver.check();
        Bench.dueCall(term, () -> solver.named(0), want);
    }

    private static void due(String term, boolean want) {
        due("Bool", term, want ? 1L : 0L);
    }

    private static void due(int width, String term, long want) {
        due("(_ BitVec " + width + ")", term, want);
    }

    private static void bools() {
        due("true", true);
        due("false", false);
        due("(not true)", false);
        due("(and true true false)", false);
        due("(and true true true)", true);
        due("(or false false true)", true);
        due("(or false false)", false);
        due("(xor true true true)", true);
        due("(xor true true)", false);
        due("(=> true false)", false);
        due("(=> false false)", true);
        due("(=> false true false)", true);
        due("(=> true false false)", true);
        due("(=> true true false)", false);
        due("(=> (=> false true) false)", false);
        due("(ite true false true)", false);
        due("(ite false false true)", true);
        due("(= true true true)", true);
        due("(= false false true)", false);
        due("(= #b10 #b10 #b10 #b11)", false);
        due("(distinct #b10 #b11 #b00)", true);
        due("(distinct #b10 #b11 #b10)", false);
        due("(distinct true false true)", false);
    }

    private static void narrow() {
        due(4, "(bvnot #b0101)", 10);
        due(4, "(bvneg #b0101)", 11);
        due(4, "(bvneg #b1000)", 8);
        due(4, "(bvneg #b0000)", 0);
        due(4, "(bvand #b1101 #b0111 #b1110)", 4);
        due(4, "(bvor #b0001 #b0100 #b1000)", 13);
        due(4, "(bvxor #b0011 #b0110 #b1111)", 10);
        due(4, "(bvadd #b1111 #b1111 #b0011)", 1);
        due(4, "(bvmul #b0111 #b0011 #b0010)", 10);
        due(4, "(bvsub #b0011 #b0101)", 14);
        due(4, "(bvudiv #b1101 #b0011)", 4);
        due(4, "(bvudiv #b1101 #b0000)", 15);
        due(4, "(bvudiv #b0000 #b0000)", 15);
        due(4, "(bvurem #b1101 #b0011)", 1);
        due(4, "(bvurem #b1101 #b0000)", 13);
        due(4, "(bvsdiv #b1001 #b0010)", 13);
        due(4, "(bvsdiv #b0111 #b1110)", 13);
        due(4, "(bvsdiv #b1001 #b1110)", 3);
        due(4, "(bvsdiv #b1000 #b1111)", 8);
        due(4, "(bvsdiv #b1000 #b0000)", 1);
        due(4, "(bvsdiv #b0111 #b0000)", 15);
        due(4, "(bvsdiv #b0000 #b0000)", 15);
        due(4, "(bvsrem #b1001 #b0010)", 15);
        due(4, "(bvsrem #b0111 #b1110)", 1);
        due(4, "(bvsrem #b1001 #b1110)", 15);
        due(4, "(bvsrem #b1001 #b0000)", 9);
        due(4, "(bvsrem #b1000 #b1111)", 0);
        due(1, "(bvsdiv #b1 #b1)", 1);
        due(1, "(bvsdiv #b1 #b0)", 1);
        due(1, "(bvsdiv #b0 #b0)", 1);
    }

    private static void wide() {
        due(64, "(bvnot " + ZERO + ")", -1L);
        due(64, "(bvneg " + LEAST + ")", Long.MIN_VALUE);
        due(64, "(bvadd " + MOST + " " + MOST + ")", -2L);
        due(64, "(bvmul " + MOST + " " + THREE + ")", -3L);
        due(64, "(bvudiv " + MOST + " " + THREE + ")", 0x5555555555555555L);
        due(64, "(bvudiv " + MOST + " " + LEAST + ")", 1L);
        due(64, "(bvudiv " + THREE + " " + LEAST + ")", 0L);
        due(64, "(bvudiv " + LEAST + " " + MOST + ")", 0L);
        due(64, "(bvudiv " + MOST + " " + ONE + ")", -1L);
        due(64, "(bvudiv " + LEAST + " #x7FFFFFFFFFFFFFFF)", 1L);
        due(64, "(bvudiv " + MOST + " " + ZERO + ")", -1L);
        due(64, "(bvurem " + MOST + " #x7FFFFFFFFFFFFFFF)", 1L);
        due(64, "(bvurem " + MOST + " #x000000000000000A)", 5L);
        due(64, "(bvurem " + LEAST + " " + MOST + ")", Long.MIN_VALUE);
        due(64, "(bvurem " + MOST + " " + ZERO + ")", -1L);
        due(64, "(bvsdiv " + LEAST + " " + MOST + ")", Long.MIN_VALUE);
        due(64, "(bvsdiv " + LEAST + " " + ZERO + ")", 1L);
        due(64, "(bvsrem " + LEAST + " " + MOST + ")", 0L);
        due(64, "(bvsrem " + LEAST + " " + THREE + ")", Long.MIN_VALUE % 3L);
    }

    private static void shifts() {
        due(4, "(bvshl #b0111 #b0001)", 14);
        due(4, "(bvshl #b0111 #b0011)", 8);
        due(4, "(bvshl #b0111 #b0100)", 0);
        due(4, "(bvshl #b0111 #b1111)", 0);
        due(4, "(bvlshr #b1101 #b0001)", 6);
        due(4, "(bvlshr #b1101 #b0100)", 0);
        due(4, "(bvashr #b1101 #b0001)", 14);
        due(4, "(bvashr #b0101 #b0001)", 2);
        due(4, "(bvashr #b1001 #b0011)", 15);
        due(4, "(bvashr #b1001 #b0100)", 15);
        due(4, "(bvashr #b0101 #b1000)", 0);
        due(1, "(bvashr #b1 #b1)", 1);
        due(1, "(bvshl #b1 #b1)", 0);
        due(64, "(bvshl " + ONE + " #x000000000000003F)", Long.MIN_VALUE);
        due(64, "(bvshl " + ONE + " #x0000000000000040)", 0L);
        due(64, "(bvshl " + ONE + " " + MOST + ")", 0L);
        due(64, "(bvlshr " + LEAST + " #x000000000000003F)", 1L);
        due(64, "(bvlshr " + LEAST + " #x0000000000000040)", 0L);
        due(64, "(bvlshr " + LEAST + " " + LEAST + ")", 0L);
        due(64, "(bvashr " + LEAST + " #x000000000000003F)", -1L);
        due(64, "(bvashr " + LEAST + " #x0000000000000040)", -1L);
        due(64, "(bvashr " + LEAST + " " + LEAST + ")", -1L);
        due(64, "(bvashr #x7000000000000000 " + MOST + ")", 0L);
    }

    private static void comparisons() {
        String[] pairs = {"#b0111 #b1000", "#b1000 #b0111", "#b1000 #b1000", "#b1111 #b1000",
            "#x7FFFFFFFFFFFFFFF " + LEAST, LEAST + " #x7FFFFFFFFFFFFFFF", MOST + " " + MOST, MOST + " " + LEAST};
        for (int i = 0; i < pairs.length; i++) {
            int kind = i % 4;
            int unsigned = kind == 0 ? -1 : kind == 2 ? 0 : 1;
            int signed = kind == 0 ? 1 : kind == 1 ? -1 : kind == 2 ? 0 : 1;
            due("(bvult " + pairs[i] + ")", unsigned < 0);
            due("(bvule " + pairs[i] + ")", unsigned <= 0);
            due("(bvugt " + pairs[i] + ")", unsigned > 0);
            due("(bvuge " + pairs[i] + ")", unsigned >= 0);
            due("(bvslt " + pairs[i] + ")", signed < 0);
            due("(bvsle " + pairs[i] + ")", signed <= 0);
            due("(bvsgt " + pairs[i] + ")", signed > 0);
            due("(bvsge " + pairs[i] + ")", signed >= 0);
        }
    }

    private static void shapes() {
        due(9, "(concat #b110 #xA #b01)", 0b110101001);
        due(64, "(concat #b1 #x000000000000000 #b010)", Long.MIN_VALUE + 2);
        due(64, "(concat #xFFFFFFFF #x00000001)", 0xFFFFFFFF00000001L);
        due(3, "((_ extract 4 2) #b110101)", 0b101);
        due(1, "((_ extract 63 63) " + LEAST + ")", 1);
        due(64, "((_ extract 63 0) " + MOST + ")", -1L);
        due(6, "((_ zero_extend 3) #b101)", 5);
        due(6, "((_ sign_extend 3) #b101)", 0b111101);
        due(6, "((_ sign_extend 3) #b011)", 3);
        due(64, "((_ sign_extend 63) #b1)", -1L);
        due(64, "((_ zero_extend 63) #b1)", 1L);
        due(64, "((_ sign_extend 0) " + LEAST + ")", Long.MIN_VALUE);
        due(12, "#xaBf", 0xABF);
    }

    private static void arrays() {
        VectorSolver solver = Bench.after("(declare-const a (Array (_ BitVec 2) (_ BitVec 3)))"
            + "(define-fun b () (Array (_ BitVec 2) (_ BitVec 3)) (store (store a #b01 #b101) #b10 #b011))"
            + "(define-fun c () (_ BitVec 3) (select b #b01))(define-fun d () (_ BitVec 3) (select b #b11))"
            + "(define-fun e () Bool (= a b))(define-fun f () Bool (= (store b #b01 #b000) (store a #b10 #b011)))"
            + "(define-fun g () (_ BitVec 3) (select (ite e a b) #b10))"
            + "(assert (= (select a #b11) #b110))(assert (= (select a #b00) #b001))");
        Bench.due("check()", solver.check(), true);
        Bench.due("cell 0", solver.value(0, 0), 1L);
        Bench.due("cell 3", solver.value(0, 3), 6L);
        Bench.due("c", solver.named(2), 5L);
        Bench.due("d", solver.named(3), 6L);
        Bench.due("e", solver.named(4), 0L);
        Bench.due("f", solver.named(5), 1L);
        Bench.due("g", solver.named(6), 3L);
    }
}
