import java.lang.reflect.Field;
import java.lang.reflect.Method;
import java.util.ArrayList;
import java.util.List;

/** Boundary cases of promises 9 to 14, and of what throws: which exception comes first, and that nothing changes. */
final class EdgeAnswersTest {
    private static final String KNOWN = "(declare-const p Bool)(define-fun t () Bool true)(declare-const x (_ BitVec 5))"
        + "(declare-const a (Array (_ BitVec 2) (_ BitVec 2)))(define-fun y () (_ BitVec 5) (bvnot x))"
        + "(define-fun b () (Array (_ BitVec 2) (_ BitVec 2)) (store a #b11 #b01))";
    private static final int[] FAR = {-1, Integer.MIN_VALUE, Integer.MAX_VALUE};

    public static void main(String[] args) throws ReflectiveOperationException {
        valueOfThings();
        valueOfCells();
        valueOfTheMostCells();
        valueOfNone();
        valueOfWhatCameBehind();
        valueAtItsEdges();
        valueArgumentBeforeState();
        namedNames();
        namedArrays();
        namedOfNone();
        namedOfWhatCameBehind();
        namedOfWidths();
        namedAndSize();
        namedArgumentBeforeState();
        missedOfNone();
        missedOfWhatWasFound();
        missedCountsEach();
        refusedAtFirst();
        refusedCountsAll();
        refusedInHardSearches();
        thingsAndWhat();
        thingSorts();
        countsAndWhat();
        countsAtTheirLimits();
        whatThrowsChangesNothing();
        whatThrowsChangesNoSearch();
        Bench.finish();
    }

    private static VectorSolver found() {
        VectorSolver solver = Edge.of(KNOWN + "(assert p)(assert (= x #b10110))(assert (= #b10 (select a #b01)))(assert (= #b11 (select a #b11)))");
        Bench.due("check()", solver.check(), true);
        return solver;
    }

    private static void valueOfThings() {
        VectorSolver solver = found();
        Bench.dueCall("value(0, 0)", () -> solver.value(0, 0), 1L);
        Bench.dueCall("value(1, 0)", () -> solver.value(1, 0), 22L);
        Bench.dueCall("value(2, 0)", () -> solver.value(2, 0), 0L);
        Bench.dueCall("value(3, 0)", () -> solver.value(3, 0), "argument");
        for (int thing : FAR) {
            Bench.dueCall("value(" + thing + ", 0)", () -> solver.value(thing, 0), "argument");
        }
    }

    /** cell = 0 for others. */
    private static void valueOfCells() {
        VectorSolver solver = found();
        Object[] cells = {0L, 2L, 0L, 3L, "argument"};
        for (int cell = 0; cell < cells.length; cell++) {
            int itsCell = cell;
            Bench.dueCall("value(2, " + cell + ")", () -> solver.value(2, itsCell), cells[cell]);
        }
        for (int thing = 0; thing < 3; thing++) {
            int itsThing = thing;
            for (int cell : FAR) {
                Bench.dueCall("value(" + thing + ", " + cell + ")", () -> solver.value(itsThing, cell), "argument");
            }
        }
        Bench.dueCall("value(0, 1)", () -> solver.value(0, 1), "argument");
        Bench.dueCall("value(1, 1)", () -> solver.value(1, 1), "argument");
    }

    /** 2 to the i, i 1 .. 6. */
    private static void valueOfTheMostCells() {
        for (int i = 1; i <= 6; i++) {
            VectorSolver solver = new VectorSolver();
            Bench.due("check()", solver.check(), true);
            Edge.good(solver, 1, "(declare-const a (Array (_ BitVec " + i + ") (_ BitVec 64)))");
            int cells = 1 << i;
            Bench.dueCall("value(0, last)", () -> solver.value(0, cells - 1), 0L);
            Bench.dueCall("value(0, last + 1)", () -> solver.value(0, cells), "argument");
        }
    }

    private static void valueOfNone() {
        VectorSolver solver = Edge.of(KNOWN);
        Bench.dueCall("value(0, 0) before a search", () -> solver.value(0, 0), "state");
        Bench.due("check()", solver.check(), true);
        Bench.dueCall("value(0, 0)", () -> solver.value(0, 0), 0L);
        Edge.good(solver, 1, "(assert false)");
        Bench.dueCall("value(0, 0) before the next search", () -> solver.value(0, 0), 0L);
        Bench.due("check()", solver.check(), false);
        Bench.dueCall("value(0, 0) of none", () -> solver.value(0, 0), "state");
        Bench.dueCall("value(2, 3) of none", () -> solver.value(2, 3), "state");
    }

    /** 0 in all bits, until a search finds another one. */
    private static void valueOfWhatCameBehind() {
        VectorSolver solver = Edge.of("(declare-const p Bool)(assert p)");
        Bench.due("check()", solver.check(), true);
        Edge.good(solver, 3, "(declare-const q Bool)(declare-const a (Array (_ BitVec 1) (_ BitVec 2)))(assert (and q (= #b11 (select a #b1))))");
        Bench.due("what was found", Edge.found(solver), "1 0 0 0");
        Bench.due("check()", solver.check(), true);
        Bench.due("what was found", Edge.found(solver), "1 1 0 3");
        Edge.good(solver, 1, "(declare-const z (_ BitVec 64))");
        Bench.due("what was found, of SIZE 70", Edge.found(solver), "1 1 0 3 0");
    }

    private static void valueAtItsEdges() {
        VectorSolver solver = Edge.of("(declare-const x (_ BitVec 16))(assert (= x #xFFFF))");
        Bench.due("check()", solver.check(), true);
        Bench.dueCall("value(0, 0), all bits 1", () -> solver.value(0, 0), 65535L);
        VectorSolver bits = Edge.of("(declare-const x (_ BitVec 8))(declare-const y (_ BitVec 1))(declare-const z (_ BitVec 7))"
            + "(assert (= x #x80))(assert (= y #b1))(assert (= z #b1000001))");
        Bench.due("check()", bits.check(), true);
        Bench.due("what was found", Edge.found(bits), "128 1 65");
    }

    private static void valueArgumentBeforeState() {
        VectorSolver solver = Edge.of(KNOWN);
        Bench.dueCall("value(3, 0) before a search", () -> solver.value(3, 0), "argument");
        Bench.dueCall("value(-1, 0) before a search", () -> solver.value(-1, 0), "argument");
        Bench.dueCall("value(2, 4) before a search", () -> solver.value(2, 4), "argument");
        Bench.dueCall("value(0, 1) before a search", () -> solver.value(0, 1), "argument");
        Bench.dueCall("value(2, 3) before a search", () -> solver.value(2, 3), "state");
    }

    /** Declared and defined ones, as they came. */
    private static void namedNames() {
        VectorSolver solver = found();
        Object[] due = {1L, 1L, 22L, "argument", 9L, "argument", "argument"};
        for (int name = 0; name < due.length; name++) {
            int itsName = name;
            Bench.dueCall("named(" + name + ")", () -> solver.named(itsName), due[name]);
        }
        for (int name : FAR) {
            Bench.dueCall("named(" + name + ")", () -> solver.named(name), "argument");
        }
    }

    /** Declared or defined, no array has one number; its cells have. */
    private static void namedArrays() {
        VectorSolver solver = Edge.of("(declare-const a (Array (_ BitVec 1) (_ BitVec 1)))(define-fun b () (Array (_ BitVec 1) (_ BitVec 1)) a)"
            + "(define-fun c () (_ BitVec 1) (select b #b1))(assert (= c #b1))");
        Bench.due("check()", solver.check(), true);
        Bench.dueCall("named(0)", () -> solver.named(0), "argument");
        Bench.dueCall("named(1)", () -> solver.named(1), "argument");
        Bench.dueCall("named(2)", () -> solver.named(2), 1L);
    }

    private static void namedOfNone() {
        VectorSolver solver = Edge.of("(define-fun t () Bool true)(declare-const p Bool)(define-fun no () Bool (and p (not p)))");
        Bench.dueCall("named(0) before a search", () -> solver.named(0), "state");
        Bench.due("check()", solver.check(), true);
        Bench.dueCall("named(0)", () -> solver.named(0), 1L);
        Bench.due("suppose(2)", solver.suppose(2), false);
        Bench.dueCall("named(0) of none", () -> solver.named(0), "state");
    }

    private static void namedOfWhatCameBehind() {
        VectorSolver solver = Edge.of("(declare-const x (_ BitVec 3))(assert (= x #b101))");
        Bench.due("check()", solver.check(), true);
        Edge.good(solver, 4, "(declare-const y (_ BitVec 3))(define-fun z () (_ BitVec 3) (bvsub x y))(define-fun n () (_ BitVec 3) (bvnot y))(assert (= y #b111))");
        Bench.dueCall("named(1), declared behind it", () -> solver.named(1), 0L);
        Bench.dueCall("named(2), of both", () -> solver.named(2), 5L);
        Bench.dueCall("named(3), of 0 in all bits", () -> solver.named(3), 7L);
        Bench.due("check()", solver.check(), true);
        Bench.dueCall("named(1)", () -> solver.named(1), 7L);
        Bench.dueCall("named(2)", () -> solver.named(2), 6L);
    }

    /** A vector of width 64 is the long of the same bits; one of width 63 is never below 0. */
    private static void namedOfWidths() {
        VectorSolver solver = Edge.of("(define-fun a () (_ BitVec 64) #xFFFFFFFFFFFFFFFF)(define-fun b () (_ BitVec 64) #x8000000000000000)"
            + "(define-fun c () (_ BitVec 63) (bvnot ((_ extract 62 0) #x0000000000000000)))(define-fun d () (_ BitVec 32) #xFFFFFFFF)"
            + "(define-fun e () (_ BitVec 1) #b1)(define-fun f () Bool false)(define-fun g () (_ BitVec 64) #x7FFFFFFFFFFFFFFF)");
        Bench.due("check()", solver.check(), true);
        long[] due = {-1L, Long.MIN_VALUE, Long.MAX_VALUE, 4294967295L, 1L, 0L, Long.MAX_VALUE};
        for (int name = 0; name < due.length; name++) {
            Bench.due("named(" + name + ")", solver.named(name), due[name]);
        }
    }

    /** SIZE is no more than 16 now. */
    private static void namedAndSize() {
        VectorSolver solver = Edge.of("(declare-const x (_ BitVec 8))(assert (= x #x81))(define-fun t () Bool true)");
        Bench.due("check()", solver.check(), true);
        Edge.good(solver, 1, "(declare-const y (_ BitVec 8))");
        Bench.dueCall("named(0) of SIZE 16", () -> solver.named(0), 129L);
        Bench.dueCall("named(2) of SIZE 16", () -> solver.named(2), 0L);
        Edge.good(solver, 1, "(declare-const z Bool)");
        Bench.dueCall("named(0) of SIZE 17", () -> solver.named(0), "state");
        Bench.dueCall("named(1) of SIZE 17", () -> solver.named(1), "state");
        Bench.dueCall("value(0, 0) of SIZE 17", () -> solver.value(0, 0), 129L);
    }

    private static void namedArgumentBeforeState() {
        VectorSolver solver = Edge.of("(declare-const a (Array (_ BitVec 1) (_ BitVec 1)))(declare-const p Bool)");
        Bench.dueCall("named(0), an array, before a search", () -> solver.named(0), "argument");
        Bench.dueCall("named(2), no name, before a search", () -> solver.named(2), "argument");
        Bench.dueCall("named(1) before a search", () -> solver.named(1), "state");
        Bench.due("check()", solver.check(), true);
        Edge.good(solver, 1, "(declare-const x (_ BitVec 14))");
        Bench.dueCall("named(0), an array, of SIZE 17", () -> solver.named(0), "argument");
        Bench.dueCall("named(3), no name, of SIZE 17", () -> solver.named(3), "argument");
        Bench.dueCall("named(1) of SIZE 17", () -> solver.named(1), "state");
    }

    private static void missedOfNone() {
        VectorSolver solver = Edge.of("(declare-const p Bool)(assert false)");
        Bench.due("missed() before a search", solver.missed(), 0);
        Bench.due("check()", solver.check(), false);
        Bench.due("missed() of none", solver.missed(), 0);
    }

    /** Of the assertions of the search that found it: what was asserted behind it does not count. */
    private static void missedOfWhatWasFound() {
        VectorSolver solver = Edge.of("(declare-const p Bool)(define-fun n () Bool (not p))" + "(assert n)".repeat(400));
        Bench.due("check()", solver.check(), true);
        Bench.due("missed()", solver.missed(), 0);
        Edge.good(solver, 1, "(assert p)");
        Bench.due("missed(), though it makes the new one false", solver.missed(), 0);
        VectorSolver other = Edge.of("(declare-const p Bool)(assert (or p true))");
        Bench.due("suppose(0)", other.suppose(0), true);
        Bench.due("missed()", other.missed(), 0);
    }

    private static Field field(Object of, String name) throws ReflectiveOperationException {
        Field field = of.getClass().getDeclaredField(name);
        field.setAccessible(true);
        return field;
    }

    /** No search finds what makes an assertion false; so it is put there, and the evaluator must tell. */
    private static void missedCountsEach() throws ReflectiveOperationException {
        VectorSolver solver = Edge.of("(declare-const x (_ BitVec 2))(define-fun no () Bool (= x #b01))(assert (= x #b10))(assert (bvugt x #b00))(assert (bvugt x #b01))");
        Bench.due("check()", solver.check(), true);
        Method countFalse = VectorSolver.class.getDeclaredMethod("countFalse", int.class);
        countFalse.setAccessible(true);
        int no = ((int[]) field(field(solver, "book").get(solver), "nameTerm").get(field(solver, "book").get(solver)))[1];
        int[][] due = {{3, 4}, {2, 2}, {0, 1}, {1, 2}};
        for (int found = 0; found < 4; found++) {
            field(solver, "found").setInt(solver, found);
            Bench.due("the false ones of " + found, countFalse.invoke(solver, -1), due[found][0]);
            Bench.due("with what was supposed", countFalse.invoke(solver, no), due[found][1]);
        }
        field(solver, "falseOnes").setInt(solver, 3);
        Bench.due("missed()", solver.missed(), 3);
        field(solver, "found").setInt(solver, -1);
        Bench.due("missed() where none is found", solver.missed(), 0);
    }

    /** Of all searches: a search counts on, and what is found stays right. */
    private static void refusedCountsAll() throws ReflectiveOperationException {
        VectorSolver solver = Edge.of("(declare-const x (_ BitVec 4))(assert (bvugt x #x7))");
        Object search = field(solver, "search").get(solver);
        field(search, "refusedOnes").setInt(search, 5);
        Bench.due("refused()", solver.refused(), 5);
        Bench.due("check()", solver.check(), true);
        Bench.due("refused() behind a search", solver.refused(), 5);
    }

    private static void refusedAtFirst() {
        Bench.due("refused()", new VectorSolver().refused(), 0);
    }

    /** The checker follows all that is learned, at the widest and in every operator that tells little. */
    private static void refusedInHardSearches() {
        String wide = "((_ zero_extend 48) x)";
        for (String term : new String[] {"(bvmul W W)", "(bvudiv #xFFFFFFFFFFFFFFFF W)", "(bvurem #xFFFFFFFFFFFFFFFF W)", "(bvsdiv (bvneg W) #x0000000000000003)",
            "(bvsrem (bvneg W) #x0000000000000007)", "(bvshl W W)", "(bvlshr (bvneg W) W)", "(bvashr (bvneg W) W)", "(bvxor W (bvneg W) (bvadd W W W))"}) {
            VectorSolver solver = Edge.of("(declare-const x (_ BitVec 16))(assert (= #x0000000000001234 " + term.replace("W", wide) + "))");
            solver.check();
            solver.more();
            Bench.due("refused() of " + term, solver.refused(), 0);
            Bench.due("missed() of " + term, solver.missed(), 0);
        }
    }

    private static void thingsAndWhat() {
        VectorSolver solver = Edge.of(KNOWN);
        int[][] due = {{0, 0, 0, 0}, {1, 5, 0, 2}, {2, 2, 2, 3}};
        for (int thing = 0; thing < 3; thing++) {
            int itsThing = thing;
            for (int what = 0; what < 4; what++) {
                Bench.due("thing(" + thing + ", " + what + ")", solver.thing(thing, what), due[thing][what]);
            }
            Bench.dueCall("thing(" + thing + ", 4)", () -> solver.thing(itsThing, 4), "argument");
            for (int what : FAR) {
                Bench.dueCall("thing(" + thing + ", " + what + ")", () -> solver.thing(itsThing, what), "argument");
            }
        }
        for (int what = 0; what < 4; what++) {
            int itsWhat = what;
            Bench.dueCall("thing(3, " + what + ")", () -> solver.thing(3, itsWhat), "argument");
            for (int thing : FAR) {
                Bench.dueCall("thing(" + thing + ", " + what + ")", () -> solver.thing(thing, itsWhat), "argument");
            }
        }
    }

    /** The narrowest and the widest of each kind. */
    private static void thingSorts() {
        VectorSolver solver = Edge.of("(declare-const a Bool)(declare-const b (_ BitVec 1))(declare-const c (_ BitVec 64))"
            + "(declare-const d (Array (_ BitVec 1) (_ BitVec 1)))(declare-const e (Array (_ BitVec 6) (_ BitVec 64)))"
            + "(declare-const f (Array (_ BitVec 6) (_ BitVec 1)))(declare-const g (Array (_ BitVec 1) (_ BitVec 64)))");
        int[][] due = {{0, 0, 0}, {1, 1, 0}, {1, 64, 0}, {2, 1, 1}, {2, 64, 6}, {2, 1, 6}, {2, 64, 1}};
        for (int thing = 0; thing < due.length; thing++) {
            for (int what = 0; what < 3; what++) {
                Bench.due("thing(" + thing + ", " + what + ")", solver.thing(thing, what), due[thing][what]);
            }
            Bench.due("thing(" + thing + ", 3)", solver.thing(thing, 3), thing);
        }
    }

    private static void countsAndWhat() {
        VectorSolver solver = Edge.of(KNOWN + "(assert p)(assert t)");
        Bench.feed(solver, "(:");
        int[] due = {8, 6, 2, 2, 3, 14, 1 + 1 + 5 + 8 + 5 + 2 + 2 + 64};
        for (int what = 0; what < due.length; what++) {
            Bench.due("count(" + what + ")", solver.count(what), due[what]);
        }
        Bench.dueCall("count(7)", () -> solver.count(7), "argument");
        for (int what : FAR) {
            Bench.dueCall("count(" + what + ")", () -> solver.count(what), "argument");
        }
    }

    private static void countsAtTheirLimits() {
        VectorSolver solver = Edge.of("(declare-const p Bool)" + "(assert p)".repeat(500));
        Bench.due("assertions", solver.count(2), 500);
        VectorSolver heavy = Edge.of(Edge.weight('x', 100000));
        Bench.due("SIZE, which is the weight of things alone", heavy.count(5), 100000);
        Bench.due("the weight", heavy.count(6), 100000);
        Bench.due("terms", Edge.of(Edge.terms(2000)).count(0), 2000);
    }

    /** All calls that throw in a state, one behind the other: after each the state is as before. */
    private static void whatThrowsChangesNothing() {
        VectorSolver solver = found();
        Edge.fault(solver, Edge.SIGN, "(|:");
        Bench.feed(solver, "(assert true)");
        String before = Bench.state(solver);
        List<Bench.Call> arguments = new ArrayList<>(List.of(() -> solver.trim(-1), () -> solver.trim(14), () -> solver.trim(21),
            () -> solver.fault(-1), () -> solver.fault(2), () -> solver.suppose(-1), () -> solver.suppose(2), () -> solver.suppose(3),
            () -> solver.suppose(6), () -> solver.value(3, 0)));
        arguments.addAll(List.of(() -> solver.value(-1, 0), () -> solver.value(2, 4), () -> solver.named(3), () -> solver.named(6),
            () -> solver.thing(3, 0), () -> solver.thing(0, 4), () -> solver.count(7), () -> solver.count(-1)));
        for (int i = 0; i < arguments.size(); i++) {
            Bench.dueCall("wrong call " + i, arguments.get(i), "argument");
            Bench.due("the state behind wrong call " + i, Bench.state(solver), before);
        }
        Bench.due("read() of the text", solver.read(), 1);
        Bench.due("more()", solver.more(), true);
        Bench.due("the next", Edge.found(solver), "1 22 0 2 1 3");
    }

    private static void whatThrowsChangesNoSearch() {
        VectorSolver solver = Edge.of("(declare-const x (_ BitVec 16))(define-fun t () Bool (bvugt x #x0100))(assert t)");
        Bench.due("check()", solver.check(), true);
        Edge.good(solver, 1, "(declare-const p Bool)");
        String before = Bench.state(solver);
        Bench.dueCall("check()", solver::check, "state");
        Bench.due("the state behind check()", Bench.state(solver), before);
        Bench.dueCall("more()", solver::more, "state");
        Bench.due("the state behind more()", Bench.state(solver), before);
        Bench.dueCall("suppose(1)", () -> solver.suppose(1), "state");
        Bench.due("the state behind suppose(1)", Bench.state(solver), before);
        Bench.dueCall("named(1)", () -> solver.named(1), "state");
        Bench.due("the state behind named(1)", Bench.state(solver), before);
        VectorSolver none = Edge.of("(declare-const p Bool)");
        String nothing = Bench.state(none);
        Bench.dueCall("value(0, 0)", () -> none.value(0, 0), "state");
        Bench.dueCall("named(0)", () -> none.named(0), "state");
        Bench.due("the state behind them", Bench.state(none), nothing);
    }
}
