/** Boundary cases of promises 6 to 8: SIZE, the effort, the least and the greatest interpretation. */
final class EdgeSearchTest {
    public static void main(String[] args) {
        sizeOfNothing();
        sizeSixteen();
        sizeSeventeen();
        sizeOfManyThings();
        effortOfNothing();
        effortWithoutThings();
        effortExactly();
        effortOneTooMuch();
        effortOfAllKindsOfSearches();
        effortOfWhatThrows();
        effortOfOneSearch();
        leastOfAll();
        greatestOfAll();
        lessInTheFirstThing();
        lessWithoutSigns();
        lessInTheFirstCell();
        noneIsFound();
        moreBeforeASearch();
        moreBehindTheGreatest();
        moreBehindNone();
        moreThroughAll();
        moreBehindDeclarations();
        moreBehindDeclarationsUpToSixteen();
        moreBehindAssertions();
        moreBehindSuppose();
        supposeNames();
        supposeSorts();
        supposeForThisSearchAlone();
        supposeWhatIsAsserted();
        supposeArgumentBeforeState();
        Bench.finish();
    }

    private static void dueFound(VectorSolver solver, String what, boolean got, String want) {
        Bench.due(what, got + " " + Edge.found(solver), want);
    }

    /** There is one interpretation, of nothing. */
    private static void sizeOfNothing() {
        VectorSolver solver = new VectorSolver();
        Bench.due("SIZE", solver.count(5), 0);
        Bench.due("check()", solver.check(), true);
        Bench.due("more()", solver.more(), false);
        VectorSolver no = Edge.of("(assert false)");
        Bench.due("check()", no.check(), false);
        Bench.due("more()", no.more(), false);
        VectorSolver yes = Edge.of("(assert true)");
        Bench.due("check()", yes.check(), true);
        Bench.due("more()", yes.more(), false);
        Bench.due("more()", yes.more(), true);
    }

    private static void sizeSixteen() {
        VectorSolver solver = Edge.of("(declare-const x (_ BitVec 16))(define-fun t () Bool true)(assert (= x #xFFFF))");
        Bench.due("SIZE", solver.count(5), 16);
        dueFound(solver, "check()", solver.check(), "true 65535");
        dueFound(solver, "suppose(1)", solver.suppose(1), "true 65535");
        dueFound(solver, "more()", solver.more(), "false state");
        dueFound(solver, "more()", solver.more(), "true 65535");
    }

    private static void sizeSeventeen() {
        VectorSolver solver = Edge.of("(declare-const x (_ BitVec 16))(define-fun t () Bool true)(assert (bvugt x #x0004))");
        dueFound(solver, "check()", solver.check(), "true 5");
        Edge.good(solver, 1, "(declare-const p Bool)");
        Bench.due("SIZE", solver.count(5), 17);
        Bench.dueCall("check()", solver::check, "state");
        Bench.dueCall("more()", solver::more, "state");
        Bench.dueCall("suppose(1)", () -> solver.suppose(1), "state");
        Bench.due("what was found stays", Edge.found(solver), "5 0");
        VectorSolver never = Edge.of("(declare-const x (_ BitVec 17))");
        Bench.dueCall("check()", never::check, "state");
        Bench.dueCall("more()", never::more, "state");
        Bench.due("none is found", Edge.found(never), "state");
    }

    private static void sizeOfManyThings() {
        String fifteen = "(declare-const p Bool)(declare-const a (Array (_ BitVec 1) (_ BitVec 3)))(declare-const x (_ BitVec 8))";
        VectorSolver solver = Edge.of(fifteen + "(declare-const q Bool)");
        Bench.due("check() of SIZE 16", solver.check(), true);
        VectorSolver more = Edge.of(fifteen + "(declare-const y (_ BitVec 2))");
        Bench.dueCall("check() of SIZE 17", more::check, "state");
        VectorSolver array = Edge.of("(declare-const a (Array (_ BitVec 4) (_ BitVec 1)))");
        Bench.due("check() of an array of SIZE 16", array.check(), true);
        VectorSolver greater = Edge.of("(declare-const a (Array (_ BitVec 5) (_ BitVec 1)))");
        Bench.dueCall("check() of an array of SIZE 32", greater::check, "state");
        VectorSolver greatest = Edge.of("(declare-const a (Array (_ BitVec 6) (_ BitVec 64)))(declare-const x (_ BitVec 64))");
        Bench.due("SIZE", greatest.count(5), 4160);
        Bench.dueCall("check() of SIZE 4160", greatest::check, "state");
    }

    /** 0 without any terms: then all can be true. */
    private static void effortOfNothing() {
        VectorSolver solver = new VectorSolver();
        for (int i = 0; i < 400; i++) {
            Bench.due("check()", solver.check(), true);
        }
        Edge.good(solver, 1, "(assert false)");
        Bench.due("check()", solver.check(), false);
    }

    /** 2 to the 0 for each term: 512 calls can't spend much. */
    private static void effortWithoutThings() {
        VectorSolver solver = Edge.of(Edge.terms(2000));
        for (int i = 0; i < 90; i++) {
            Bench.due("check()", solver.check(), true);
        }
    }

    /**
     * 25 searches of 265 terms times 2 to the 9, and 2 of 1000 terms times 2 to the 16: one of these is left
     * then, exactly. The one term before them costs 1 for each search.
     */
    private static VectorSolver nearTheEnd(int before) {
        VectorSolver solver = Edge.of("(define-fun t () Bool true)");
        for (int i = 0; i < before; i++) {
            Bench.due("check()", solver.check(), true);
        }
        Edge.good(solver, 8, "(declare-const x (_ BitVec 9))" + Edge.terms(263));
        Bench.due("terms", solver.count(0), 265);
        for (int i = 0; i < 25; i++) {
            Bench.due("check()", solver.check(), true);
        }
        Edge.good(solver, 20, "(declare-const y (_ BitVec 7))" + Edge.terms(734));
        Bench.due("terms", solver.count(0), 1000);
        Bench.due("check()", solver.check(), true);
        Bench.due("check()", solver.check(), true);
        return solver;
    }

    private static void effortExactly() {
        VectorSolver solver = nearTheEnd(0);
        dueFound(solver, "more(), of all that is left", solver.more(), "true 0 1");
        Bench.dueCall("check() of more than is left", solver::check, "state");
        Bench.dueCall("more() of more than is left", solver::more, "state");
        Bench.dueCall("suppose(0) of more than is left", () -> solver.suppose(0), "state");
        Bench.due("what was found stays", Edge.found(solver), "0 1");
        Bench.due("named(0)", solver.named(0), 1L);
    }

    private static void effortOneTooMuch() {
        VectorSolver solver = nearTheEnd(1);
        Bench.dueCall("check() of 1 more than is left", solver::check, "state");
        Bench.dueCall("more() of 1 more than is left", solver::more, "state");
        Bench.dueCall("suppose(0) of 1 more than is left", () -> solver.suppose(0), "state");
        Bench.due("what was found stays", Edge.found(solver), "0 0");
    }

    /** Each kind costs the same, found or not: 3 times 65536000 are 196608000, and a fourth would be too much. */
    private static void effortOfAllKindsOfSearches() {
        VectorSolver solver = Edge.of("(declare-const x (_ BitVec 16))(define-fun no () Bool (distinct x x))" + Edge.terms(998));
        Bench.due("terms", solver.count(0), 1000);
        dueFound(solver, "suppose(1), which finds none", solver.suppose(1), "false state");
        dueFound(solver, "more()", solver.more(), "true 0");
        dueFound(solver, "more()", solver.more(), "true 1");
        Bench.dueCall("more()", solver::more, "state");
        Bench.dueCall("check()", solver::check, "state");
        Bench.dueCall("suppose(1)", () -> solver.suppose(1), "state");
        Bench.due("what was found stays", Edge.found(solver), "1");
    }

    /** What throws costs nothing. */
    private static void effortOfWhatThrows() {
        VectorSolver solver = nearTheEnd(0);
        Bench.dueCall("suppose(-1)", () -> solver.suppose(-1), "argument");
        Bench.dueCall("suppose(1), no Bool", () -> solver.suppose(1), "argument");
        Bench.dueCall("suppose(3), no name", () -> solver.suppose(3), "argument");
        dueFound(solver, "suppose(0), of all that is left", solver.suppose(0), "true 0 0");
        Bench.dueCall("suppose(0)", () -> solver.suppose(0), "state");
        Bench.dueCall("suppose(1)", () -> solver.suppose(1), "argument");
    }

    /** 2000 terms times 2 to the 16 is 131072000, once. */
    private static void effortOfOneSearch() {
        VectorSolver solver = Edge.of("(declare-const x (_ BitVec 16))" + Edge.terms(1999));
        dueFound(solver, "check()", solver.check(), "true 0");
        Bench.dueCall("check()", solver::check, "state");
        Bench.dueCall("more()", solver::more, "state");
        Bench.due("what was found stays", Edge.found(solver), "0");
    }

    private static void leastOfAll() {
        VectorSolver solver = Edge.of("(declare-const x (_ BitVec 8))(declare-const a (Array (_ BitVec 2) (_ BitVec 2)))");
        dueFound(solver, "check()", solver.check(), "true 0 0 0 0 0");
        dueFound(solver, "more()", solver.more(), "true 0 0 0 0 1");
        VectorSolver only = Edge.of("(declare-const x (_ BitVec 16))(assert (bvult x #x0001))");
        dueFound(only, "check()", only.check(), "true 0");
        dueFound(only, "more()", only.more(), "false state");
    }

    private static void greatestOfAll() {
        VectorSolver solver = Edge.of("(declare-const x (_ BitVec 8))(declare-const a (Array (_ BitVec 2) (_ BitVec 2)))"
            + "(assert (= x #xFF))(assert (= #b11 (select a #b00) (select a #b01) (select a #b10) (select a #b11)))");
        dueFound(solver, "check()", solver.check(), "true 255 3 3 3 3");
        dueFound(solver, "more()", solver.more(), "false state state state state state");
        dueFound(solver, "more()", solver.more(), "true 255 3 3 3 3");
    }

    /** In the order in which they were declared, whatever comes behind. */
    private static void lessInTheFirstThing() {
        VectorSolver solver = Edge.of("(declare-const p Bool)(declare-const x (_ BitVec 4))(declare-const q Bool)"
            + "(assert (or (and (not p) (= x #xF) q) (and p (= x #x0) (not q))))");
        dueFound(solver, "check()", solver.check(), "true 0 15 1");
        dueFound(solver, "more()", solver.more(), "true 1 0 0");
        dueFound(solver, "more()", solver.more(), "false state state state");
    }

    private static void lessWithoutSigns() {
        VectorSolver solver = Edge.of("(declare-const x (_ BitVec 4))(assert (distinct x #x0))(assert (or (bvslt x #x0) (= x #x7)))");
        dueFound(solver, "check()", solver.check(), "true 7");
        dueFound(solver, "more()", solver.more(), "true 8");
        VectorSolver bit = Edge.of("(declare-const x (_ BitVec 1))");
        dueFound(bit, "check()", bit.check(), "true 0");
        dueFound(bit, "more()", bit.more(), "true 1");
        dueFound(bit, "more()", bit.more(), "false state");
    }

    /** From index 0 on. */
    private static void lessInTheFirstCell() {
        VectorSolver solver = Edge.of("(declare-const a (Array (_ BitVec 2) (_ BitVec 2)))"
            + "(define-fun s () (_ BitVec 2) (bvor (select a #b00) (select a #b01) (select a #b10) (select a #b11)))"
            + "(assert (= s #b10))(assert (= #b00 (select a #b01)))(assert (distinct (select a #b00) (select a #b11)))");
        dueFound(solver, "check()", solver.check(), "true 0 0 0 2");
        dueFound(solver, "more()", solver.more(), "true 0 0 2 2");
        dueFound(solver, "more()", solver.more(), "true 2 0 0 0");
        dueFound(solver, "more()", solver.more(), "true 2 0 2 0");
        dueFound(solver, "more()", solver.more(), "false state state state state");
    }

    private static void noneIsFound() {
        VectorSolver solver = Edge.of("(declare-const x (_ BitVec 4))(define-fun no () Bool (bvult x #x0))");
        dueFound(solver, "check()", solver.check(), "true 0");
        dueFound(solver, "suppose(1)", solver.suppose(1), "false state");
        dueFound(solver, "check()", solver.check(), "true 0");
        Edge.good(solver, 1, "(assert no)");
        Bench.due("what was found stays until the next search", Edge.found(solver), "0");
        dueFound(solver, "check()", solver.check(), "false state");
        dueFound(solver, "check()", solver.check(), "false state");
    }

    private static void moreBeforeASearch() {
        VectorSolver solver = Edge.of("(declare-const x (_ BitVec 4))(assert (bvuge x #x0))");
        dueFound(solver, "more(), as check()", solver.more(), "true 0");
        dueFound(solver, "more()", solver.more(), "true 1");
        dueFound(solver, "check()", solver.check(), "true 0");
        dueFound(solver, "more()", solver.more(), "true 1");
    }

    private static void moreBehindTheGreatest() {
        VectorSolver solver = Edge.of("(declare-const x (_ BitVec 16))(assert (bvuge x #xFFFE))");
        dueFound(solver, "check()", solver.check(), "true 65534");
        dueFound(solver, "more()", solver.more(), "true 65535");
        dueFound(solver, "more() behind the greatest of all", solver.more(), "false state");
        dueFound(solver, "more(), as check()", solver.more(), "true 65534");
    }

    private static void moreBehindNone() {
        VectorSolver solver = Edge.of("(declare-const x (_ BitVec 4))(define-fun no () Bool false)(assert (bvugt x #x2))");
        dueFound(solver, "check()", solver.check(), "true 3");
        dueFound(solver, "suppose(1)", solver.suppose(1), "false state");
        dueFound(solver, "more(), as check()", solver.more(), "true 3");
    }

    private static void moreThroughAll() {
        VectorSolver solver = Edge.of("(declare-const p Bool)(declare-const a (Array (_ BitVec 1) (_ BitVec 2)))(declare-const x (_ BitVec 2))");
        for (int i = 0; i < 128; i++) {
            dueFound(solver, "more() " + i, solver.more(), "true " + (i >> 6) + " " + (i >> 4 & 3) + " " + (i >> 2 & 3) + " " + (i & 3));
        }
        dueFound(solver, "more() behind all", solver.more(), "false state state state state");
    }

    /** Things that were declared behind it are 0 in all bits, and that one itself is not among the greater. */
    private static void moreBehindDeclarations() {
        VectorSolver solver = Edge.of("(declare-const x (_ BitVec 2))(assert (= x #b11))");
        dueFound(solver, "check()", solver.check(), "true 3");
        Edge.good(solver, 2, "(declare-const p Bool)(declare-const a (Array (_ BitVec 1) (_ BitVec 1)))");
        Bench.due("what was found", Edge.found(solver), "3 0 0 0");
        dueFound(solver, "more()", solver.more(), "true 3 0 0 1");
        VectorSolver none = Edge.of("(declare-const x (_ BitVec 2))(assert (= x #b11))");
        dueFound(none, "check()", none.check(), "true 3");
        Edge.good(none, 2, "(declare-const p Bool)(assert (not p))");
        dueFound(none, "more(), as only what was found is left", none.more(), "false state state");
        dueFound(none, "more(), as check()", none.more(), "true 3 0");
        VectorSolver nothing = new VectorSolver();
        Bench.due("check() of nothing", nothing.check(), true);
        Edge.good(nothing, 1, "(declare-const p Bool)");
        dueFound(nothing, "more() behind the one of nothing", nothing.more(), "true 1");
    }

    private static void moreBehindDeclarationsUpToSixteen() {
        VectorSolver solver = Edge.of("(declare-const x (_ BitVec 15))(assert (= x #b111111111111111))");
        dueFound(solver, "check()", solver.check(), "true 32767");
        Edge.good(solver, 1, "(declare-const p Bool)");
        dueFound(solver, "more()", solver.more(), "true 32767 1");
        dueFound(solver, "more()", solver.more(), "false state state");
        VectorSolver far = Edge.of("(declare-const p Bool)(assert p)");
        dueFound(far, "check()", far.check(), "true 1");
        Edge.good(far, 2, "(declare-const x (_ BitVec 15))(assert (= x #b111111111111111))");
        dueFound(far, "more()", far.more(), "true 1 32767");
        dueFound(far, "more()", far.more(), "false state state");
    }

    private static void moreBehindAssertions() {
        VectorSolver solver = Edge.of("(declare-const x (_ BitVec 3))");
        dueFound(solver, "check()", solver.check(), "true 0");
        Edge.good(solver, 1, "(assert (bvugt x #b101))");
        dueFound(solver, "more()", solver.more(), "true 6");
        Edge.good(solver, 1, "(assert (bvult x #b111))");
        dueFound(solver, "more()", solver.more(), "false state");
        dueFound(solver, "more(), as check()", solver.more(), "true 6");
    }

    private static void moreBehindSuppose() {
        VectorSolver solver = Edge.of("(declare-const x (_ BitVec 3))(define-fun big () Bool (bvugt x #b101))(assert (distinct x #b111))");
        dueFound(solver, "suppose(1)", solver.suppose(1), "true 6");
        dueFound(solver, "more(), without what was supposed", solver.more(), "false state");
        dueFound(solver, "more(), as check()", solver.more(), "true 0");
    }

    private static void supposeNames() {
        VectorSolver solver = Edge.of("(declare-const p Bool)(define-fun n () Bool (not p))");
        for (int name : new int[] {-1, 2, Integer.MIN_VALUE, Integer.MAX_VALUE}) {
            Bench.dueCall("suppose(" + name + ")", () -> solver.suppose(name), "argument");
        }
        dueFound(solver, "suppose(0)", solver.suppose(0), "true 1");
        dueFound(solver, "suppose(1)", solver.suppose(1), "true 0");
    }

    /** It must be a Bool; a vector of width 1 is none. */
    private static void supposeSorts() {
        VectorSolver solver = Edge.of("(declare-const x (_ BitVec 1))(declare-const a (Array (_ BitVec 1) (_ BitVec 1)))(declare-const p Bool)"
            + "(define-fun y () (_ BitVec 1) #b1)(define-fun b () (Array (_ BitVec 1) (_ BitVec 1)) a)(define-fun t () Bool true)");
        Object[] due = {"argument", "argument", true, "argument", "argument", true};
        for (int name = 0; name < due.length; name++) {
            int itsName = name;
            Bench.dueCall("suppose(" + name + ")", () -> solver.suppose(itsName), due[name]);
        }
    }

    private static void supposeForThisSearchAlone() {
        VectorSolver solver = Edge.of("(declare-const p Bool)(define-fun f () Bool false)");
        dueFound(solver, "suppose(0)", solver.suppose(0), "true 1");
        Bench.due("assertions", solver.count(2), 0);
        dueFound(solver, "check()", solver.check(), "true 0");
        dueFound(solver, "suppose(1)", solver.suppose(1), "false state");
        dueFound(solver, "check()", solver.check(), "true 0");
    }

    private static void supposeWhatIsAsserted() {
        VectorSolver solver = Edge.of("(declare-const p Bool)(define-fun n () Bool (not p))(assert p)");
        dueFound(solver, "suppose(0)", solver.suppose(0), "true 1");
        dueFound(solver, "suppose(1)", solver.suppose(1), "false state");
    }

    private static void supposeArgumentBeforeState() {
        VectorSolver solver = Edge.of("(declare-const x (_ BitVec 16))(declare-const p Bool)");
        Bench.dueCall("suppose(1) of SIZE 17", () -> solver.suppose(1), "state");
        Bench.dueCall("suppose(0), no Bool, of SIZE 17", () -> solver.suppose(0), "argument");
        Bench.dueCall("suppose(2), no name, of SIZE 17", () -> solver.suppose(2), "argument");
        Bench.dueCall("suppose(-1), no name, of SIZE 17", () -> solver.suppose(-1), "argument");
    }
}
