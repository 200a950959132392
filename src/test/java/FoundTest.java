/** Promises 9 to 14: value, named, missed, refused, thing and count. */
final class FoundTest {
    private static final int[] NO_INDEX = {-1, Integer.MIN_VALUE, Integer.MAX_VALUE};

    public static void main(String[] args) {
        values();
        names();
        missedAndRefused();
        things();
        counts();
        Bench.finish();
    }

    private static void values() {
        VectorSolver solver = Bench.after("(declare-const p Bool)(declare-const x (_ BitVec 5))"
            + "(declare-const a (Array (_ BitVec 2) (_ BitVec 2)))(assert p)(assert (= x #b10001))"
            + "(assert (= (concat (select a #b00) (select a #b01) (select a #b10) (select a #b11)) #b01001110))");
        Bench.dueCall("value before a search", () -> solver.value(0, 0), "state");
        Bench.dueCall("value of no thing before a search", () -> solver.value(3, 0), "argument");
        Bench.due("check()", solver.check(), true);
        long[][] due = {{1}, {17}, {1, 0, 3, 2}};
        for (int thing = 0; thing < 3; thing++) {
            for (int cell = 0; cell < due[thing].length; cell++) {
                Bench.due("value(" + thing + ", " + cell + ")", solver.value(thing, cell), due[thing][cell]);
            }
            dueNoCell(solver, thing, due[thing].length);
        }
        for (int thing : NO_INDEX) {
            Bench.dueCall("value(" + thing + ", 0)", () -> solver.value(thing, 0), "argument");
        }
        Bench.dueCall("value(3, 0)", () -> solver.value(3, 0), "argument");
        Bench.read(solver, "(declare-const b (Array (_ BitVec 6) (_ BitVec 64)))");
        Bench.dueCall("value(3, 63) of what came behind", () -> solver.value(3, 63), 0L);
        Bench.dueCall("value(3, 64)", () -> solver.value(3, 64), "argument");
        Bench.dueCall("value(2, 2) of SIZE 4110", () -> solver.value(2, 2), 3L);
        VectorSolver none = Bench.after("(declare-const p Bool)(assert (not (= p p)))");
        Bench.due("check()", none.check(), false);
        Bench.dueCall("value(0, 0) of none", () -> none.value(0, 0), "state");
        Bench.dueCall("value(0, 1) of none", () -> none.value(0, 1), "argument");
    }

    private static void dueNoCell(VectorSolver solver, int thing, int cells) {
        Bench.dueCall("value(" + thing + ", " + cells + ")", () -> solver.value(thing, cells), "argument");
        for (int cell : NO_INDEX) {
            Bench.dueCall("value(" + thing + ", " + cell + ")", () -> solver.value(thing, cell), "argument");
        }
    }

    private static void names() {
        VectorSolver solver = Bench.after("(define-fun w () (_ BitVec 64) (bvneg #x0000000000000002))"
            + "(declare-const x (_ BitVec 3))(define-fun y () (_ BitVec 3) (bvadd x #b001))"
            + "(declare-const a (Array (_ BitVec 1) (_ BitVec 1)))(define-fun b () (Array (_ BitVec 1) (_ BitVec 1)) a)"
            + "(define-fun t () Bool (bvugt x #b100))(assert t)");
        Bench.dueCall("named(0) before a search", () -> solver.named(0), "state");
        Bench.dueCall("named(3) before a search", () -> solver.named(3), "argument");
        Bench.due("check()", solver.check(), true);
        Object[] due = {-2L, 5L, 6L, "argument", "argument", 1L, "argument"};
        for (int name = 0; name < due.length; name++) {
            int itsName = name;
            Bench.dueCall("named(" + name + ")", () -> solver.named(itsName), due[name]);
        }
        for (int name : NO_INDEX) {
            Bench.dueCall("named(" + name + ")", () -> solver.named(name), "argument");
        }
        Bench.read(solver, "(declare-const z (_ BitVec 4))(define-fun u () (_ BitVec 4) (bvnot z))(define-fun v () (_ BitVec 3) x)");
        Bench.dueCall("named(z), declared behind it", () -> solver.named(6), 0L);
        Bench.dueCall("named(u), of what is 0", () -> solver.named(7), 15L);
        Bench.dueCall("named(v), of what was found", () -> solver.named(8), 5L);
        Bench.read(solver, "(declare-const q (_ BitVec 8))");
        Bench.dueCall("named(0) of SIZE 17", () -> solver.named(0), "state");
        Bench.dueCall("named(3) of SIZE 17", () -> solver.named(3), "argument");
        Bench.dueCall("named(99) of SIZE 17", () -> solver.named(99), "argument");
        Bench.dueCall("value(0, 0) of SIZE 17", () -> solver.value(0, 0), 5L);
    }

    private static void missedAndRefused() {
        VectorSolver solver = Bench.after("(declare-const x (_ BitVec 4))(declare-const y (_ BitVec 4))(declare-const p Bool)"
            + "(assert (= (bvmul x y) #b0101))(assert (xor p (bvult x y)))");
        int searches = 0;
        while (solver.more()) {
            searches++;
            Bench.due("missed()", solver.missed(), 0);
            Bench.due("refused()", solver.refused(), 0);
        }
        Bench.due("how many there are", searches, 8);
        Bench.due("missed() where none is found", solver.missed(), 0);
        Bench.due("suppose(2)", solver.suppose(2), true);
        Bench.read(solver, "(assert (not p))(assert (distinct x x))");
        Bench.due("missed(), of the search that found it", solver.missed(), 0);
        Bench.due("check()", solver.check(), false);
        Bench.due("refused()", solver.refused(), 0);
    }

    private static void things() {
        VectorSolver solver = Bench.after("(define-fun c () Bool true)(declare-const p Bool)(define-fun d () Bool p)"
            + "(declare-const x (_ BitVec 64))(declare-const a (Array (_ BitVec 6) (_ BitVec 63)))");
        int[][] due = {{0, 0, 0, 1}, {1, 64, 0, 3}, {2, 63, 6, 4}};
        for (int thing = 0; thing < 3; thing++) {
            for (int what = 0; what < 4; what++) {
                Bench.due("thing(" + thing + ", " + what + ")", solver.thing(thing, what), due[thing][what]);
            }
            int itsThing = thing;
            Bench.dueCall("thing(" + thing + ", 4)", () -> solver.thing(itsThing, 4), "argument");
            Bench.dueCall("thing(" + thing + ", -1)", () -> solver.thing(itsThing, -1), "argument");
        }
        for (int thing : NO_INDEX) {
            Bench.dueCall("thing(" + thing + ", 0)", () -> solver.thing(thing, 0), "argument");
        }
        Bench.dueCall("thing(3, 0)", () -> solver.thing(3, 0), "argument");
    }

    private static void counts() {
        VectorSolver solver = Bench.after("(declare-const p Bool)(declare-const x (_ BitVec 5))"
            + "(declare-const a (Array (_ BitVec 2) (_ BitVec 3)))(define-fun q () Bool (=> p (= x #b00001)))"
            + "(assert q)(assert q)(assert (let ((r (not p))) (or r r)))");
        Bench.feed(solver, "(assert p");
        int[] due = {8, 4, 3, 9, 3, 18, 1 + 5 + 12 + 5 + 25 + 4 + 1 + 4};
        for (int what = 0; what < 7; what++) {
            Bench.due("count(" + what + ")", solver.count(what), due[what]);
        }
        for (int what : NO_INDEX) {
            Bench.dueCall("count(" + what + ")", () -> solver.count(what), "argument");
        }
        Bench.dueCall("count(7)", () -> solver.count(7), "argument");
    }
}
