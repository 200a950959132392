/** Promises 6, 7 and 8: check, more and suppose, with SIZE and effort. */
final class SearchTest {
    public static void main(String[] args) {
        least();
        order();
        arraysInOrder();
        goingOn();
        goingOnBehindDeclarations();
        supposing();
        size();
        effort();
        effortAtItsEnd();
        constants();
        hard();
        Bench.finish();
    }

    private static String found(VectorSolver solver) {
        StringBuilder all = new StringBuilder();
        for (int thing = 0; thing < solver.count(4); thing++) {
            for (int cell = 0; cell < 1 << solver.thing(thing, 2); cell++) {
                int itsThing = thing;
                int itsCell = cell;
                all.append(all.length() == 0 ? "" : " ").append(Bench.answer(() -> solver.value(itsThing, itsCell)));
            }
        }
        return all.toString();
    }

    private static void least() {
        VectorSolver solver = Bench.after("(declare-const x (_ BitVec 4))(declare-const y (_ BitVec 4))"
            + "(assert (= (bvadd x y) #b0010))(assert (bvugt x y))");
        Bench.due("check()", solver.check(), true);
        Bench.due("the least", found(solver), "2 0");
        Bench.due("check() again", solver.check(), true);
        Bench.due("the least again", found(solver), "2 0");
        Bench.read(solver, "(assert (= y #b1000))");
        Bench.due("what was found stays when a text is read", found(solver), "2 0");
        Bench.due("check()", solver.check(), true);
        Bench.due("the least", found(solver), "10 8");
        Bench.read(solver, "(assert (= x #b0000))");
        Bench.due("check()", solver.check(), false);
        Bench.due("none is found", found(solver), "state state");
    }

    /** Things in the order in which they were declared, numbers without signs. */
    private static void order() {
        VectorSolver solver = Bench.after("(declare-const p Bool)(declare-const x (_ BitVec 2))(declare-const q Bool)"
            + "(assert (or p (= x #b11)))(assert (or q (bvslt x #b00)))");
        Bench.due("check()", solver.check(), true);
        Bench.due("1st", found(solver), "0 3 0");
        String[] rest = {"0 3 1", "1 0 1", "1 1 1", "1 2 0", "1 2 1", "1 3 0", "1 3 1"};
        for (String next : rest) {
            Bench.due("more()", solver.more(), true);
            Bench.due("next", found(solver), next);
        }
        Bench.due("more() behind the last", solver.more(), false);
        Bench.due("none is found", found(solver), "state state state");
        Bench.due("more() as check()", solver.more(), true);
        Bench.due("1st again", found(solver), "0 3 0");
    }

    private static void arraysInOrder() {
        VectorSolver solver = Bench.after("(declare-const a (Array (_ BitVec 1) (_ BitVec 2)))(declare-const p Bool)"
            + "(assert (bvult (select a #b1) (select a #b0)))(assert (= p (= a (store a #b1 #b01))))");
        Bench.due("check()", solver.check(), true);
        Bench.due("1st", found(solver), "1 0 0");
        String[] rest = {"2 0 0", "2 1 1", "3 0 0", "3 1 1", "3 2 0"};
        for (String next : rest) {
            Bench.due("more()", solver.more(), true);
            Bench.due("next", found(solver), next);
        }
        Bench.due("more()", solver.more(), false);
    }

    private static void goingOn() {
        VectorSolver solver = Bench.after("(declare-const x (_ BitVec 3))");
        Bench.due("more() where none is found is check()", solver.more(), true);
        Bench.due("x", found(solver), "0");
        Bench.due("more()", solver.more(), true);
        Bench.due("x", found(solver), "1");
        Bench.read(solver, "(assert (distinct x #b010))(assert (bvule x #b101))");
        Bench.due("more()", solver.more(), true);
        Bench.due("x", found(solver), "3");
        Bench.due("suppose(0), no Bool", Bench.answer(() -> solver.suppose(0)), "argument");
        Bench.due("x still", found(solver), "3");
        Bench.read(solver, "(assert (= x #b000))");
        Bench.due("more() has none above", solver.more(), false);
        Bench.due("more() begins anew", solver.more(), true);
        Bench.due("x", found(solver), "0");
    }

    /** Things that were declared behind what was found are 0 in it. */
    private static void goingOnBehindDeclarations() {
        VectorSolver solver = Bench.after("(declare-const x (_ BitVec 2))(assert (bvuge x #b01))");
        Bench.due("check()", solver.check(), true);
        Bench.read(solver, "(declare-const p Bool)(declare-const a (Array (_ BitVec 1) (_ BitVec 1)))");
        Bench.due("x and what came behind it", found(solver), "1 0 0 0");
        Bench.due("more()", solver.more(), true);
        Bench.due("the next", found(solver), "1 0 0 1");
        Bench.read(solver, "(declare-const q Bool)(assert (= p true))");
        Bench.due("still", found(solver), "1 0 0 1 0");
        Bench.due("more()", solver.more(), true);
        Bench.due("the next", found(solver), "1 1 0 0 0");
        Bench.read(solver, "(assert (distinct x #b01 #b10))(assert q)(assert (= #b1 (select a #b0)))");
        Bench.due("more()", solver.more(), true);
        Bench.due("the next", found(solver), "3 1 1 0 1");
    }

    private static void supposing() {
        VectorSolver solver = Bench.after("(declare-const x (_ BitVec 3))(define-fun big () Bool (bvugt x #b100))"
            + "(define-fun small () Bool (bvult x #b010))(declare-const p Bool)(assert (distinct x #b101))"
            + "(define-fun a () (_ BitVec 2) #b11)(define-fun no () Bool (and big small))");
        Bench.due("suppose(1)", solver.suppose(1), true);
        Bench.due("big", found(solver), "6 0");
        Bench.due("missed()", solver.missed(), 0);
        Bench.due("more(), without what was supposed", solver.more(), true);
        Bench.due("the next", found(solver), "6 1");
        Bench.due("suppose(3)", solver.suppose(3), true);
        Bench.due("p", found(solver), "0 1");
        Bench.due("suppose(5)", solver.suppose(5), false);
        Bench.due("none is found", found(solver), "state state");
        Bench.due("the assertions are as before", solver.count(2), 1);
        Bench.due("check()", solver.check(), true);
        Bench.due("the least", found(solver), "0 0");
        for (int name : new int[] {-1, 0, 4, 6, Integer.MAX_VALUE, Integer.MIN_VALUE}) {
            Bench.dueCall("suppose(" + name + ")", () -> solver.suppose(name), "argument");
        }
        Bench.due("what was found", found(solver), "0 0");
    }

    private static void size() {
        VectorSolver solver = Bench.after("(declare-const x (_ BitVec 16))(assert (= x #xFFFF))(define-fun t () Bool true)");
        Bench.due("check()", solver.check(), true);
        Bench.due("x", found(solver), "65535");
        Bench.read(solver, "(declare-const p Bool)");
        Bench.dueCall("check() of SIZE 17", solver::check, "state");
        Bench.dueCall("more() of SIZE 17", solver::more, "state");
        Bench.dueCall("suppose(1) of SIZE 17", () -> solver.suppose(1), "state");
        Bench.dueCall("suppose(0) of SIZE 17", () -> solver.suppose(0), "argument");
        Bench.dueCall("suppose(9) of SIZE 17", () -> solver.suppose(9), "argument");
        Bench.due("what was found stays", found(solver), "65535 0");
        Bench.due("missed()", solver.missed(), 0);
        VectorSolver big = Bench.after("(declare-const a (Array (_ BitVec 6) (_ BitVec 64)))(assert false)");
        Bench.dueCall("check() of SIZE 4096", big::check, "state");
        Bench.dueCall("value(0, 63)", () -> big.value(0, 63), "state");
    }

    /** 65536 times 1000 terms is 65536000: three times, and no fourth time. */
    private static void effort() {
        VectorSolver solver = new VectorSolver();
        Bench.read(solver, "(declare-const x (_ BitVec 16))(define-fun t () Bool (= x #x0002))"
            + ("(assert (=" + " #b1".repeat(39) + "))").repeat(24) + "(assert (=" + " #b1".repeat(36) + "))");
        Bench.due("terms", solver.count(0), 1000);
        Bench.due("check()", solver.check(), true);
        Bench.dueCall("suppose(0)", () -> solver.suppose(0), "argument");
        Bench.due("more()", solver.more(), true);
        Bench.due("suppose(1)", solver.suppose(1), true);
        Bench.dueCall("check()", solver::check, "state");
        Bench.dueCall("more()", solver::more, "state");
        Bench.dueCall("suppose(1)", () -> solver.suppose(1), "state");
        Bench.due("what was found stays", found(solver), "2");
        Bench.due("named(1)", solver.named(1), 1L);
    }

    /** A search that is too dear is refused, and one of what is left exactly is not. */
    private static void effortAtItsEnd() {
        VectorSolver solver = Bench.after("(declare-const x (_ BitVec 16))(define-fun t () Bool (bvult x x))"
            + ("(assert (=" + " #b1".repeat(39) + "))").repeat(49) + "(assert (=" + " #b1".repeat(37) + "))");
        Bench.due("terms", solver.count(0), 2000);
        Bench.due("check() of 131072000", solver.check(), true);
        Bench.dueCall("check() of as much", solver::check, "state");
        // 2 to the 13 times 1250 terms is 10240000: 19 of these leave 5440000.
        VectorSolver other = Bench.after("(declare-const x (_ BitVec 13))" + ("(assert (=" + " #b1".repeat(39) + "))").repeat(31)
            + "(assert (=" + " #b1".repeat(8) + "))");
        Bench.due("terms", other.count(0), 1250);
        for (int i = 0; i < 19; i++) {
            Bench.due("check() " + i, other.check(), true);
        }
        Bench.dueCall("check() beyond", other::check, "state");
        // 2 to the 9 times 1250 terms is 640000: 312 of these leave 320000, which are 2 to the 8 times 1250.
        VectorSolver last = Bench.after("(declare-const x (_ BitVec 8))" + ("(assert (=" + " #b1".repeat(39) + "))").repeat(31)
            + "(assert (=" + " #b1".repeat(8) + "))");
        Bench.due("check() of 320000", last.check(), true);
        Bench.read(last, "(declare-const p Bool)");
        Bench.due("terms", last.count(0), 1251);
        // 2 to the 9 times 1251 is 640512: 311 of these leave 480768, one of 2 to the 9 times 939.
        for (int i = 0; i < 311; i++) {
            Bench.due("check() " + i, last.check(), true);
        }
        Bench.dueCall("check() of 640512, where 480768 is left", last::check, "state");
        exactly();
    }

    /** 625 terms times 2 to the 9 is 320000, and 625 times that 200000000. */
    private static void exactly() {
        VectorSolver solver = Bench.after("(declare-const x (_ BitVec 9))" + ("(assert (=" + " #b1".repeat(39) + "))").repeat(15)
            + "(assert (=" + " #b1".repeat(23) + "))");
        Bench.due("terms", solver.count(0), 625);
        for (int i = 0; i < 625; i++) {
            Bench.due("check() " + i, solver.check(), true);
        }
        Bench.dueCall("check() beyond", solver::check, "state");
    }

    /** Without things there is one interpretation; without terms a search costs nothing. */
    private static void constants() {
        VectorSolver none = new VectorSolver();
        for (int i = 0; i < 100; i++) {
            Bench.due("check() of nothing", none.check(), true);
        }
        Bench.due("more() of nothing", none.more(), false);
        VectorSolver yes = Bench.after("(assert (= (bvmul #x7 #x3) #x5))");
        Bench.due("check()", yes.check(), true);
        Bench.due("more()", yes.more(), false);
        VectorSolver no = Bench.after("(declare-const x (_ BitVec 16))(assert (= (bvmul #x7 #x3) #x6))");
        Bench.due("check()", no.check(), false);
        Bench.due("refused()", no.refused(), 0);
    }

    /** All 16 bits, and operators that tell little before all of them are known. */
    private static void hard() {
        VectorSolver solver = Bench.after("(declare-const x (_ BitVec 16))"
            + "(define-fun s () (_ BitVec 32) (bvmul ((_ zero_extend 16) x) ((_ zero_extend 16) x)))"
            + "(assert (= s #xF7399669))");
        Bench.due("check()", solver.check(), true);
        Bench.due("x", found(solver), "64403");
        Bench.due("more()", solver.more(), false);
        VectorSolver parts = Bench.after("(declare-const x (_ BitVec 8))(declare-const y (_ BitVec 8))"
            + "(define-fun xw () (_ BitVec 16) ((_ zero_extend 8) x))(define-fun yw () (_ BitVec 16) ((_ zero_extend 8) y))"
            + "(assert (= (bvmul xw yw) #xD3ED))(assert (bvult #x01 x))(assert (bvult #x01 y))");
        Bench.due("check()", parts.check(), true);
        Bench.due("the factors", found(parts), "227 239");
        Bench.due("more()", parts.more(), true);
        Bench.due("the factors the other way", found(parts), "239 227");
        Bench.due("more()", parts.more(), false);
        Bench.due("refused()", parts.refused() + solver.refused(), 0);
    }
}
