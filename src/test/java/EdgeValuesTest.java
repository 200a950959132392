import java.math.BigInteger;

/** Boundary cases of values: modulo 2^w, divisions by 0, shifts by the width and more, signs, cells. */
final class EdgeValuesTest {
    private static final int[] WIDTHS = {1, 2, 3, 5, 32, 33, 63, 64};

    public static void main(String[] args) {
        for (int width : WIDTHS) {
            wrapAround(width);
            unsignedDivisionByZero(width);
            signedDivisionByZero(width);
            signedDivisionOfTheLeast(width);
            shifts(width);
            comparisons(width);
            reshaping(width);
        }
        signedDivisionCutsTowardsZero();
        unsignedDivisionOfWideNumbers();
        shiftsByWideNumbers();
        folding();
        implications();
        choices();
        sameAndDistinct();
        concatOrder();
        cells();
        cellsOfTheGreatestArray();
        allPairsBySearch();
        allShapesBySearch();
        Bench.finish();
    }

    private static BigInteger power(int n) {
        return BigInteger.ONE.shiftLeft(n);
    }

    private static BigInteger number(long n) {
        return BigInteger.valueOf(n);
    }

    /** A constant of a width that is n modulo 2^w, as a binary word. */
    private static String word(int width, BigInteger n) {
        String digits = n.mod(power(width)).toString(2);
        return "#b" + "0".repeat(width - digits.length()) + digits;
    }

    private static String word(int width, long n) {
        return word(width, number(n));
    }

    private static void due(int width, String term, BigInteger want) {
        VectorSolver solver = Edge.of("(define-fun it () " + new Problem.Sort(0, width) + " " + term + ")");
        Bench.due("check()", solver.check(), true);
        Bench.due(term, solver.named(0), (width == 0 ? want : want.mod(power(width))).longValue());
    }

    private static void due(int width, String term, long want) {
        due(width, term, number(want));
    }

    private static void due(String term, boolean want) {
        due(0, term, want ? 1L : 0L);
    }

    private static String of(String op, String a, String b) {
        return "(" + op + " " + a + " " + b + ")";
    }

    private static BigInteger most(int width) {
        return power(width).subtract(BigInteger.ONE);
    }

    /** The least number with a sign. */
    private static BigInteger least(int width) {
        return power(width - 1);
    }

    /** Results are taken modulo 2^w. */
    private static void wrapAround(int w) {
        String zero = word(w, 0);
        String one = word(w, 1);
        String most = word(w, most(w));
        String least = word(w, least(w));
        due(w, of("bvadd", most, one), 0);
        due(w, of("bvadd", most, most), -2);
        due(w, of("bvadd", word(w, most(w).subtract(BigInteger.ONE)), one), most(w));
        due(w, of("bvsub", zero, one), most(w));
        due(w, of("bvsub", zero, zero), 0);
        due(w, of("bvsub", zero, most), 1);
        due(w, of("bvmul", most, most), 1);
        due(w, of("bvmul", least, word(w, 2)), 0);
        due(w, of("bvmul", least, most), least(w));
        due(w, "(bvneg " + zero + ")", 0);
        due(w, "(bvneg " + one + ")", most(w));
        due(w, "(bvneg " + least + ")", least(w));
        due(w, "(bvnot " + zero + ")", most(w));
        due(w, "(bvnot " + most + ")", 0);
    }

    /** All bits 1; what is left is the first. */
    private static void unsignedDivisionByZero(int w) {
        for (BigInteger first : new BigInteger[] {number(0), number(1), least(w), most(w)}) {
            due(w, of("bvudiv", word(w, first), word(w, 0)), most(w));
            due(w, of("bvurem", word(w, first), word(w, 0)), first);
            due(w, of("bvudiv", word(w, first), word(w, 1)), first);
            due(w, of("bvurem", word(w, first), word(w, 1)), 0);
            due(w, of("bvudiv", word(w, first), word(w, most(w))), first.equals(most(w)) ? 1 : 0);
            due(w, of("bvurem", word(w, first), word(w, most(w))), first.equals(most(w)) ? number(0) : first);
        }
    }

    /** 1 if the first is below 0, otherwise -1; what is left is the first. */
    private static void signedDivisionByZero(int w) {
        for (BigInteger first : new BigInteger[] {number(0), number(1), least(w), least(w).subtract(BigInteger.ONE), most(w)}) {
            due(w, of("bvsdiv", word(w, first), word(w, 0)), first.testBit(w - 1) ? 1 : -1);
            due(w, of("bvsrem", word(w, first), word(w, 0)), first);
        }
    }

    /** The least number divided by -1 is beyond the greatest one. */
    private static void signedDivisionOfTheLeast(int w) {
        String least = word(w, least(w));
        due(w, of("bvsdiv", least, word(w, -1)), least(w));
        due(w, of("bvsrem", least, word(w, -1)), 0);
        due(w, of("bvsdiv", least, least), 1);
        due(w, of("bvsrem", least, least), 0);
        due(w, of("bvsdiv", word(w, -1), word(w, -1)), 1);
        if (w > 1) {
            due(w, of("bvsdiv", least, word(w, least(w).subtract(BigInteger.ONE))), w == 2 ? -2 : -1);
            due(w, of("bvsrem", least, word(w, least(w).subtract(BigInteger.ONE))), w == 2 ? 0 : -1);
        }
    }

    /** By 0, by the width less 1, by the width, by more, by all that can be. */
    private static void shifts(int w) {
        BigInteger[] counts = {number(0), number(1), number(w - 1), number(w), number(w + 1), number(2L * w), least(w), most(w)};
        for (BigInteger first : new BigInteger[] {number(1), least(w), most(w), most(w).subtract(number(2))}) {
            for (BigInteger count : counts) {
                BigInteger by = count.mod(power(w));
                boolean whole = by.compareTo(number(w)) >= 0;
                BigInteger a = first.mod(power(w));
                BigInteger signed = a.testBit(w - 1) ? a.subtract(power(w)) : a;
                due(w, of("bvshl", word(w, a), word(w, by)), whole ? number(0) : a.shiftLeft(by.intValue()));
                due(w, of("bvlshr", word(w, a), word(w, by)), whole ? number(0) : a.shiftRight(by.intValue()));
                due(w, of("bvashr", word(w, a), word(w, by)), whole ? number(signed.signum() < 0 ? -1 : 0) : signed.shiftRight(by.intValue()));
            }
        }
    }

    private static void comparisons(int w) {
        BigInteger[] edges = {number(0), number(1), least(w).subtract(BigInteger.ONE), least(w), most(w)};
        for (BigInteger a : edges) {
            for (BigInteger b : edges) {
                BigInteger x = a.mod(power(w));
                BigInteger y = b.mod(power(w));
                int unsigned = x.compareTo(y);
                int signed = x.xor(least(w)).compareTo(y.xor(least(w)));
                due(of("bvult", word(w, x), word(w, y)), unsigned < 0);
                due(of("bvule", word(w, x), word(w, y)), unsigned <= 0);
                due(of("bvugt", word(w, x), word(w, y)), unsigned > 0);
                due(of("bvuge", word(w, x), word(w, y)), unsigned >= 0);
                due(of("bvslt", word(w, x), word(w, y)), signed < 0);
                due(of("bvsle", word(w, x), word(w, y)), signed <= 0);
                due(of("bvsgt", word(w, x), word(w, y)), signed > 0);
                due(of("bvsge", word(w, x), word(w, y)), signed >= 0);
            }
        }
    }

    /** Up to 64 bits, and down to one. */
    private static void reshaping(int w) {
        String least = word(w, least(w));
        due(64, "((_ zero_extend " + (64 - w) + ") " + least + ")", least(w));
        due(64, "((_ sign_extend " + (64 - w) + ") " + least + ")", least(w).negate());
        due(w, "((_ zero_extend 0) " + least + ")", least(w));
        due(w, "((_ sign_extend 0) " + least + ")", least(w));
        due(w, "((_ extract " + (w - 1) + " 0) " + least + ")", least(w));
        due(1, "((_ extract " + (w - 1) + " " + (w - 1) + ") " + least + ")", 1);
        due(1, "((_ extract 0 0) " + least + ")", w == 1 ? 1 : 0);
        due(1, "((_ extract " + (w - 1) + " " + (w - 1) + ") " + word(w, least(w).subtract(BigInteger.ONE)) + ")", 0);
        if (w < 64) {
            due(w + 1, "(concat " + least + " #b1)", least(w).shiftLeft(1).add(BigInteger.ONE));
            due(w + 1, "(concat #b1 " + least + ")", least(w).add(power(w)));
            due(w + 1, "((_ sign_extend 1) " + least + ")", least(w).add(power(w)));
        }
    }

    /** What is left has the sign of the first. */
    private static void signedDivisionCutsTowardsZero() {
        long[][] cases = {{7, 2, 3, 1}, {-7, 2, -3, -1}, {7, -2, -3, 1}, {-7, -2, 3, -1}, {1, 2, 0, 1}, {-1, 2, 0, -1}, {6, 3, 2, 0}, {-6, 3, -2, 0}};
        for (int w : new int[] {4, 8, 63, 64}) {
            for (long[] each : cases) {
                due(w, of("bvsdiv", word(w, each[0]), word(w, each[1])), each[2]);
                due(w, of("bvsrem", word(w, each[0]), word(w, each[1])), each[3]);
            }
        }
    }

    private static void unsignedDivisionOfWideNumbers() {
        long[] edges = {1, 2, 3, 10, Long.MAX_VALUE - 1, Long.MAX_VALUE, Long.MIN_VALUE, Long.MIN_VALUE + 1, -2, -1};
        for (long a : edges) {
            for (long b : edges) {
                due(64, of("bvudiv", word(64, a), word(64, b)), Long.divideUnsigned(a, b));
                due(64, of("bvurem", word(64, a), word(64, b)), Long.remainderUnsigned(a, b));
            }
        }
    }

    /** Whose lowest six or thirty-two bits alone would be a small shift. */
    private static void shiftsByWideNumbers() {
        for (BigInteger by : new BigInteger[] {number(64), number(65), power(32), power(32).add(BigInteger.ONE), power(63), power(63).add(number(1))}) {
            due(64, of("bvshl", word(64, 1), word(64, by)), 0);
            due(64, of("bvlshr", word(64, -1), word(64, by)), 0);
            due(64, of("bvashr", word(64, -2), word(64, by)), -1);
            due(64, of("bvashr", word(64, Long.MAX_VALUE), word(64, by)), 0);
        }
    }

    /** From the first on, with 2 arguments, 3 and 40. */
    private static void folding() {
        due(4, "(bvadd #x9 #x9 #x9)", 27);
        due(4, "(bvmul #x3 #x5 #x7)", 105);
        due(8, "(bvadd" + " #x07".repeat(40) + ")", 280);
        due(8, "(bvmul" + " #x03".repeat(40) + ")", number(3).pow(40));
        due(4, "(bvxor #b0011 #b0101 #b1111)", 0b1001);
        due(4, "(bvxor" + " #b1010".repeat(40) + ")", 0);
        due(4, "(bvand #b0111 #b1110 #b1101)", 0b0100);
        due(4, "(bvor #b0001 #b0000 #b1000)", 0b1001);
        due("(xor" + " true".repeat(40) + ")", false);
        due("(xor" + " true".repeat(39) + ")", true);
        due("(and" + " true".repeat(39) + " false)", false);
        due("(and" + " true".repeat(40) + ")", true);
        due("(or true" + " false".repeat(39) + ")", true);
        due("(or" + " false".repeat(40) + ")", false);
    }

    /** From the last on to the first. */
    private static void implications() {
        due("(=> false false)", true);
        due("(=> false true)", true);
        due("(=> true false)", false);
        due("(=> true true)", true);
        due("(=> false true false)", true);
        due("(=> false false false)", true);
        due("(=> true false false)", true);
        due("(=> true true false)", false);
        due("(=>" + " true".repeat(39) + " false)", false);
        due("(=> true true false" + " true".repeat(36) + " false)", true);
    }

    private static void choices() {
        due("(ite true true false)", true);
        due("(ite true false true)", false);
        due("(ite false true false)", false);
        due("(ite false false true)", true);
        due(64, "(ite true #xFFFFFFFFFFFFFFFF #x0000000000000000)", -1L);
        due(64, "(ite false #xFFFFFFFFFFFFFFFF #x0000000000000000)", 0L);
    }

    private static void sameAndDistinct() {
        due("(= #b1 #b1)", true);
        due("(= #b1 #b0)", false);
        due("(= #b1 #b1 #b0)", false);
        due("(= #b0 #b1 #b1)", false);
        due("(=" + " #b1".repeat(39) + " #b0)", false);
        due("(=" + " #b1".repeat(40) + ")", true);
        due("(distinct #b1 #b0)", true);
        due("(distinct #b1 #b1)", false);
        due("(distinct #b01 #b10 #b01)", false);
        due("(distinct #b01 #b01 #b10)", false);
        due("(distinct #b10 #b01 #b01)", false);
        due("(distinct #b00 #b01 #b10 #b11)", true);
        due("(distinct true false)", true);
        due("(distinct true false true)", false);
        due("(= true true true)", true);
        due("(= #x8000000000000000 #x0000000000000000)", false);
        due("(distinct #x8000000000000000 #x0000000000000000)", true);
    }

    /** The first one highest. */
    private static void concatOrder() {
        due(6, "(concat #b1 #b00 #b101)", 0b100101);
        due(64, "(concat #xF #x000000000000001 )", 0xF000000000000001L);
        due(64, "(concat" + " #b1".repeat(39) + " #b" + "0".repeat(25) + ")", -1L << 25);
    }

    /** The first and the last cell, one that was stored and those beside it. */
    private static void cells() {
        VectorSolver solver = Edge.of("(declare-const a (Array (_ BitVec 2) (_ BitVec 2)))"
            + "(assert (= (concat (select a #b00) (select a #b01) (select a #b10) (select a #b11)) #b00011011))");
        String[] indices = {"#b00", "#b01", "#b10", "#b11"};
        StringBuilder text = new StringBuilder();
        for (int stored = 0; stored < 4; stored++) {
            for (int read = 0; read < 4; read++) {
                text.append("(define-fun n").append(stored).append(read).append(" () (_ BitVec 2) (select (store (store a ");
                text.append(indices[stored]).append(" #b01) ").append(indices[3 - stored]).append(" #b10) ").append(indices[read]).append("))");
            }
        }
        Edge.good(solver, 16, text.toString());
        Bench.due("check()", solver.check(), true);
        for (int cell = 0; cell < 4; cell++) {
            Bench.due("value(0, " + cell + ")", solver.value(0, cell), (long) cell);
        }
        for (int stored = 0; stored < 4; stored++) {
            for (int read = 0; read < 4; read++) {
                long want = read == 3 - stored ? 2 : read == stored ? 1 : read;
                Bench.due("cell " + read + " of what was stored at " + stored, solver.named(1 + 4 * stored + read), want);
            }
        }
    }

    /** 16 bits in all: 16 cells of one bit, 2 of eight. */
    private static void cellsOfTheGreatestArray() {
        VectorSolver bits = Edge.of("(declare-const a (Array (_ BitVec 4) (_ BitVec 1)))(assert (= #b1 (select a #xF) (select a #x0)))"
            + "(define-fun b () (_ BitVec 1) (select (store a #xF #b0) #xF))(define-fun c () (_ BitVec 1) (select (store a #xE #b1) #xE))");
        Bench.due("check()", bits.check(), true);
        Bench.due("the cells", Edge.found(bits), "1 0 0 0 0 0 0 0 0 0 0 0 0 0 0 1");
        Bench.due("b, c", bits.named(1) + " " + bits.named(2), "0 1");
        VectorSolver two = Edge.of("(declare-const a (Array (_ BitVec 1) (_ BitVec 8)))(assert (= (select a #b1) #xFF))(assert (= (select a #b0) #xFE))");
        Bench.due("check()", two.check(), true);
        Bench.due("the cells", Edge.found(two), "254 255");
    }

    /** All values of two vectors that a search goes through, by the numbers' own arithmetic. */
    private static void allPairsBySearch() {
        for (String op : ("bvand bvor bvxor bvadd bvmul bvsub bvudiv bvurem bvsdiv bvsrem bvshl bvlshr bvashr").split(" ")) {
            for (int w = 1; w <= 3; w++) {
                Problem.Sort sort = new Problem.Sort(0, w);
                VectorSolver solver = Edge.of("(declare-const x " + sort + ")(declare-const y " + sort + ")(declare-const z " + sort + ")"
                    + "(assert (= z (" + op + " x y)))");
                StringBuilder got = new StringBuilder();
                StringBuilder want = new StringBuilder();
                for (long x = 0; x < 1 << w; x++) {
                    for (long y = 0; y < 1 << w; y++) {
                        want.append(x).append(' ').append(y).append(' ').append(pair(op, x, y, w)).append(", ");
                        Bench.due("more()", solver.more(), true);
                        got.append(Edge.found(solver)).append(", ");
                    }
                }
                Bench.due("all pairs of " + op + " of width " + w, got.toString(), want.toString());
                Bench.due("more() behind the last", solver.more(), false);
                Bench.due("refused()", solver.refused(), 0);
            }
        }
    }

    /** All that a search finds for the things of terms that take bits apart, put them together or choose among them. */
    private static void allShapesBySearch() {
        dueAll("(declare-const x (_ BitVec 2))(declare-const y (_ BitVec 4))(assert (= y ((_ sign_extend 2) x)))", "0 0, 1 1, 2 14, 3 15, ");
        dueAll("(declare-const x (_ BitVec 2))(declare-const y (_ BitVec 4))(assert (= y ((_ zero_extend 2) x)))", "0 0, 1 1, 2 2, 3 3, ");
        dueAll("(declare-const y (_ BitVec 1))(declare-const x (_ BitVec 3))(assert (= ((_ extract 2 1) x) (concat y #b1)))", "0 2, 0 3, 1 6, 1 7, ");
        dueAll("(declare-const p Bool)(declare-const x (_ BitVec 1))(declare-const y (_ BitVec 1))(assert (= #b1 (ite p x y)))",
            "0 0 1, 0 1 1, 1 1 0, 1 1 1, ");
        dueAll("(declare-const i (_ BitVec 1))(declare-const a (Array (_ BitVec 1) (_ BitVec 1)))(assert (= #b1 (select a i)))",
            "0 1 0, 0 1 1, 1 0 1, 1 1 1, ");
        dueAll("(declare-const i (_ BitVec 1))(declare-const x (_ BitVec 1))(declare-const a (Array (_ BitVec 1) (_ BitVec 1)))"
            + "(assert (= #b0 (select (store a i #b0) #b1) x))(assert (= a (store a #b0 #b1)))", "0 0 1 0, 1 0 1 0, 1 0 1 1, ");
        dueAll("(declare-const x (_ BitVec 2))(declare-const y (_ BitVec 2))(assert (distinct x y #b01 #b10))", "0 3, 3 0, ");
        dueAll("(declare-const p Bool)(declare-const q Bool)(declare-const r Bool)(assert (not (=> p q r)))", "1 1 0, ");
    }

    private static void dueAll(String text, String want) {
        VectorSolver solver = Edge.of(text);
        StringBuilder got = new StringBuilder();
        for (int i = 0; i < 20 && solver.more(); i++) {
            got.append(Edge.found(solver)).append(", ");
        }
        Bench.due("all of " + text, got.toString(), want);
        Bench.due("refused()", solver.refused(), 0);
    }

    private static long pair(String op, long x, long y, int w) {
        long size = 1L << w;
        long a = x >= size / 2 ? x - size : x;
        long b = y >= size / 2 ? y - size : y;
        long all;
        switch (op) {
            case "bvand": all = x & y; break;
            case "bvor": all = x | y; break;
            case "bvxor": all = x ^ y; break;
            case "bvadd": all = x + y; break;
            case "bvmul": all = x * y; break;
            case "bvsub": all = x - y; break;
            case "bvudiv": all = y == 0 ? -1 : x / y; break;
            case "bvurem": all = y == 0 ? x : x % y; break;
            case "bvsdiv": all = b == 0 ? (a < 0 ? 1 : -1) : a / b; break;
            case "bvsrem": all = b == 0 ? a : a % b; break;
            case "bvshl": all = y >= w ? 0 : x << y; break;
            case "bvlshr": all = y >= w ? 0 : x >> y; break;
            default: all = a >> y;
        }
        return Math.floorMod(all, size);
    }
}
