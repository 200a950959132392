/** Boundary cases of FULL, HEAVY and DEEP, on both sides, in one text and in several. */
final class EdgeLimitsTest {
    public static void main(String[] args) {
        terms();
        termsOfSeveralTexts();
        termsOfAFaultyText();
        termsFullBehindManyAndSorts();
        termsFullOfAThing();
        names();
        namesOfThings();
        namesFullBehindTaken();
        nameBytes();
        assertions();
        assertionsOfTheSameTerms();
        assertionsFullBehindTheirSort();
        boundSymbols();
        boundSymbolsOfSeveralLets();
        symbolsJustBeingBound();
        boundFullBehindTaken();
        arguments();
        argumentsOfFaultyTexts();
        weight();
        weightOfSeveralTexts();
        heavyBehindFull();
        heavyBehindManyAndSorts();
        heaviestTerms();
        depth();
        depthOfWhatIsClosed();
        depthOfLetsAndIndexed();
        Bench.finish();
    }

    /** 2000 terms. */
    private static void terms() {
        VectorSolver solver = new VectorSolver();
        Edge.good(solver, 50, Edge.terms(2000));
        Bench.due("terms", solver.count(0), 2000);
        Edge.fault(Edge.FULL, Edge.terms(2000) + "(assert |true)");
        VectorSolver less = Edge.of(Edge.terms(1999));
        Edge.good(less, 1, "(assert true)");
        Bench.due("terms", less.count(0), 2000);
        Bench.due("check()", less.check(), true);
    }

    private static void termsOfSeveralTexts() {
        VectorSolver solver = Edge.of(Edge.terms(2000));
        for (String text : new String[] {"(assert |true)", "(assert |false)", "(assert |#b1)", "(assert |#x1)", "(assert (and |true",
            "(define-fun x () Bool |true)", "(assert (let ((x |true)) x))"}) {
            Edge.fault(solver, Edge.FULL, text);
        }
        Bench.due("terms", solver.count(0), 2000);
        Edge.good(solver, 0, "");
    }

    /** What a text with a fault would have made is gone again. */
    private static void termsOfAFaultyText() {
        VectorSolver solver = Edge.of("(declare-const p Bool)");
        Edge.fault(solver, Edge.SIGN, Edge.terms(1999) + "|:");
        Bench.due("terms", solver.count(0), 1);
        Edge.good(solver, 50, Edge.terms(1999));
        Edge.fault(solver, Edge.FULL, "(assert |(not p))");
        Edge.good(solver, 1, "(assert p)");
    }

    private static void termsFullBehindManyAndSorts() {
        VectorSolver solver = Edge.of("(declare-const p Bool)(declare-const v (_ BitVec 4))" + Edge.terms(1998));
        Edge.fault(solver, Edge.FULL, "(assert |(not p))");
        Edge.fault(solver, Edge.FULL, "(assert (and p |(not p) :");
        Edge.fault(solver, Edge.FULL, "(assert (= v |((_ extract 3 0) v)))");
        Edge.fault(solver, Edge.MANY, "(assert |(not p p))");
        Edge.fault(solver, Edge.SORTS, "(assert |(not v))");
        Edge.fault(solver, Edge.NAME, "(assert (not |x))");
        Edge.fault(solver, Edge.END, "(assert (not p|");
        Edge.good(solver, 2, "(define-fun q () Bool (let ((x p)) x))(assert q)");
        VectorSolver one = Edge.of("(declare-const p Bool)" + Edge.terms(1998));
        Edge.fault(one, Edge.FULL, "(assert |(not (not p)))");
        Edge.good(one, 1, "(assert (not p))");
    }

    /** At its symbol, behind its sort, before the end bracket. */
    private static void termsFullOfAThing() {
        VectorSolver solver = Edge.of(Edge.terms(2000));
        Edge.fault(solver, Edge.FULL, "(declare-const |x Bool)");
        Edge.fault(solver, Edge.FULL, "(declare-const |x (_ BitVec 64) :");
        Edge.fault(solver, Edge.FULL, "(declare-const |x (Array (_ BitVec 6) (_ BitVec 64))");
        Edge.fault(solver, Edge.OTHER, "(declare-const x |bool)");
        Edge.fault(solver, Edge.NUMBER, "(declare-const x (_ BitVec |65))");
        Edge.fault(solver, Edge.OTHER, "(declare-const x (_ BitVec 64 |64))");
        VectorSolver one = Edge.of(Edge.terms(1999));
        Edge.fault(one, Edge.FULL, "(declare-const x Bool)(declare-const |y Bool)");
        Edge.good(one, 1, "(declare-const x Bool)");
    }

    private static String names(int from, int to) {
        StringBuilder text = new StringBuilder();
        for (int i = from; i < to; i++) {
            text.append(i % 2 == 0 ? "(declare-const n" + i + " Bool)" : "(define-fun n" + i + " () Bool n0)");
        }
        return text.toString();
    }

    /** 500 names, declared and defined ones; 512 calls can't feed so many, but the document tells the limit. */
    private static void names() {
        VectorSolver solver = Edge.of(names(0, 500));
        Bench.due("names", solver.count(1), 500);
        Bench.due("things", solver.count(4), 250);
        Bench.due("the name of the last thing", solver.thing(249, 3), 498);
        Edge.fault(solver, Edge.FULL, "(declare-const |x Bool)");
        Edge.fault(solver, Edge.FULL, "(define-fun |x () Bool n0)");
        // At its symbol, before its sort and term are read.
        Edge.fault(solver, Edge.FULL, "(declare-const |x :");
        Edge.fault(solver, Edge.FULL, "(define-fun |x :");
        Edge.good(solver, 1, "(assert (let ((x n0)) x))");
        Edge.fault(Edge.FULL, names(0, 500) + "(declare-const |x Bool)");
        VectorSolver one = Edge.of(names(0, 499));
        Edge.fault(one, Edge.FULL, "(declare-const x Bool)(define-fun |y () Bool x)");
        Edge.good(one, 1, "(declare-const x Bool)");
        Bench.due("the name of the last thing", one.thing(250, 3), 499);
    }

    /** All of them declared, so that there are 500 things too. */
    private static void namesOfThings() {
        StringBuilder text = new StringBuilder();
        for (int i = 0; i < 500; i++) {
            text.append("(declare-const n").append(i).append(" (_ BitVec 2))");
        }
        VectorSolver solver = Edge.of(text.toString());
        Bench.due("things", solver.count(4), 500);
        Bench.due("SIZE", solver.count(5), 1000);
        Bench.due("the last thing", solver.thing(499, 0) + " " + solver.thing(499, 1) + " " + solver.thing(499, 3), "1 2 499");
        Bench.dueCall("thing(500, 0)", () -> solver.thing(500, 0), "argument");
        Edge.fault(solver, Edge.FULL, "(declare-const |x Bool)");
    }

    private static void namesFullBehindTaken() {
        VectorSolver solver = Edge.of(names(0, 500));
        Edge.fault(solver, Edge.TAKEN, "(declare-const |n499 Bool)");
        Edge.fault(solver, Edge.TAKEN, "(define-fun |and () Bool n0)");
        Edge.fault(solver, Edge.OTHER, "(declare-const |5 Bool)");
    }

    /** 65536 bytes of names, of all texts together; beyond 512 calls, too. */
    private static void nameBytes() {
        VectorSolver solver = Edge.of("(declare-const " + "x".repeat(60000) + " Bool)");
        Edge.fault(solver, Edge.FULL, "(declare-const |" + "y".repeat(5537) + " Bool)");
        Edge.fault(solver, Edge.FULL, "(define-fun |" + "y".repeat(5537) + " :");
        Edge.good(solver, 1, "(assert (let ((" + "y".repeat(5537) + " true)) true))");
        Edge.fault(solver, Edge.SIGN, "(declare-const " + "y".repeat(5536) + " Bool)|:");
        Edge.good(solver, 2, "(declare-const " + "y".repeat(5536) + " Bool)(assert " + "y".repeat(5536) + ")");
        Edge.fault(solver, Edge.FULL, "(declare-const |z Bool)");
        Edge.fault(solver, Edge.TAKEN, "(declare-const |" + "y".repeat(5536) + " Bool)");
    }

    /** 500 assertions. */
    private static void assertions() {
        VectorSolver solver = Edge.of("(declare-const p Bool)" + "(assert p)".repeat(500));
        Bench.due("assertions", solver.count(2), 500);
        Edge.fault(solver, Edge.FULL, "(assert |p)");
        Edge.fault(solver, Edge.FULL, "(assert |(not p) :");
        Edge.good(solver, 1, "(declare-const q Bool)");
        Bench.due("suppose(1), one more for this search", solver.suppose(1), true);
        Bench.due("what was found", Edge.found(solver), "1 1");
        Edge.fault(Edge.FULL, "(declare-const p Bool)" + "(assert p)".repeat(500) + "(assert |p)");
        VectorSolver one = Edge.of("(declare-const p Bool)" + "(assert p)".repeat(499));
        Edge.fault(one, Edge.FULL, "(assert p)(assert |p)");
        Bench.due("assertions", one.count(2), 499);
        Edge.good(one, 1, "(assert (not p))");
        Bench.due("check(), with the last one", one.check(), false);
    }

    /** 500 that are all made of the same terms, many of them. */
    private static void assertionsOfTheSameTerms() {
        VectorSolver solver = Edge.of("(declare-const p Bool)(define-fun q () Bool " + "(not ".repeat(50) + "p" + ")".repeat(50) + ")"
            + "(define-fun r () Bool " + "(not ".repeat(50) + "q" + ")".repeat(50) + ")" + "(assert r)(assert q)".repeat(250));
        Bench.due("assertions", solver.count(2), 500);
        Bench.due("check()", solver.check(), true);
        Bench.due("what was found", Edge.found(solver), "1");
        Bench.due("suppose(2)", solver.suppose(2), true);
        Bench.due("more()", solver.more(), false);
    }

    /** When the term was read. */
    private static void assertionsFullBehindTheirSort() {
        VectorSolver solver = Edge.of("(declare-const p Bool)(declare-const v (_ BitVec 4))" + "(assert p)".repeat(500));
        Edge.fault(solver, Edge.SORTS, "(assert |v)");
        Edge.fault(solver, Edge.NAME, "(assert (not |x))");
        Edge.fault(solver, Edge.SIGN, "(assert (not p |:");
        Edge.fault(solver, Edge.SORTS, "(assert (not |(not v)))");
        Edge.fault(solver, Edge.FULL, "(assert |(let ((x p)) x) p");
        Bench.due("terms", solver.count(0), 2);
    }

    private static String bindings(int from, int to) {
        StringBuilder all = new StringBuilder();
        for (int i = from; i < to; i++) {
            all.append("(b").append(i).append(" true)");
        }
        return all.toString();
    }

    /** 16 bound symbols at a time. */
    private static void boundSymbols() {
        Edge.good(1, "(assert (let (" + bindings(0, 16) + ") (and b0 b15)))");
        Edge.fault(Edge.FULL, "(assert (let (" + bindings(0, 16) + "(|b16 true)) b0))");
        Edge.fault(Edge.FULL, "(assert (let (" + bindings(0, 16) + "(|b16 :");
    }

    /** Those of a let that has ended count no more. */
    private static void boundSymbolsOfSeveralLets() {
        Edge.good(1, "(assert (let (" + bindings(0, 10) + ") (let (" + bindings(10, 16) + ") (and b0 b15))))");
        Edge.fault(Edge.FULL, "(assert (let (" + bindings(0, 10) + ") (let (" + bindings(10, 16) + "(|b16 true)) b0)))");
        Edge.good(1, "(assert (and (let (" + bindings(0, 16) + ") b0) (let (" + bindings(0, 16) + ") b0)))");
        Edge.good(2, "(assert (let (" + bindings(0, 16) + ") b0))(assert (let (" + bindings(0, 16) + ") b0))");
        Edge.good(1, "(assert (let ((x true)) (and (let (" + bindings(0, 15) + ") b0) (let (" + bindings(0, 15) + ") x))))");
        Edge.fault(Edge.FULL, "(assert (let ((x true)) (and (let (" + bindings(0, 15) + ") b0) (let (" + bindings(0, 15) + "(|y true)) x))))");
        VectorSolver solver = new VectorSolver();
        Edge.fault(solver, Edge.SIGN, "(assert (let (" + bindings(0, 16) + ") |:");
        Edge.good(solver, 1, "(assert (let (" + bindings(0, 16) + ") b0))");
    }

    /** The symbol whose term is being read counts with those before it. */
    private static void symbolsJustBeingBound() {
        Edge.good(1, "(assert (let (" + bindings(0, 14) + "(b14 (let ((b15 true)) b15))) b0))");
        Edge.fault(Edge.FULL, "(assert (let (" + bindings(0, 15) + "(b15 (let ((|b16 true)) b16))) b0))");
        Edge.good(1, "(assert (let (" + bindings(0, 14) + "(b14 (let ((x true)) x)) (b15 true)) b15))");
        Edge.good(1, "(assert " + "(let ((x ".repeat(16) + "true" + ")) x)".repeat(16) + ")");
        Edge.fault(Edge.FULL, "(assert " + "(let ((x ".repeat(16) + "(let ((|x true)) x)");
    }

    private static void boundFullBehindTaken() {
        Edge.fault(Edge.TAKEN, "(assert (let (" + bindings(0, 16) + "(|b3 true)) b0))");
        Edge.fault(Edge.TAKEN, "(assert (let (" + bindings(0, 16) + "(|bvadd true)) b0))");
        Edge.fault(Edge.OTHER, "(assert (let (" + bindings(0, 16) + "(|5 true)) b0))");
    }

    /** 40 arguments of an operator: the 41st one is FULL as soon as it was read, where the application begins. */
    private static void arguments() {
        Edge.good(1, "(assert (and" + " true".repeat(40) + "))");
        Edge.fault(Edge.FULL, "(assert |(and" + " true".repeat(41) + "))");
        Edge.fault(Edge.FULL, "(assert |(and" + " true".repeat(41) + " :");
        Edge.fault(Edge.FULL, "(assert |(and" + " true".repeat(41));
        Edge.fault(Edge.FULL, "(assert (not |(and" + " true".repeat(40) + " (not true) :");
        Edge.fault(Edge.FULL, "(assert |((_ extract 1 0)" + " true".repeat(41) + " :");
        Edge.fault(Edge.SIGN, "(assert (and" + " true".repeat(40) + " |:");
        Edge.fault(Edge.NAME, "(assert (and" + " true".repeat(40) + " |x))");
        Edge.fault(Edge.SORTS, "(assert (and" + " true".repeat(40) + " |(not #b1)))");
        Edge.fault(Edge.END, "(assert (and" + " true".repeat(40) + "|");
        Edge.fault(Edge.MANY, "(assert |(not" + " true".repeat(40) + "))");
        Edge.fault(Edge.FULL, "(assert |(not" + " true".repeat(41) + "))");
        Edge.fault(Edge.SORTS, "(assert |(and" + " #b1".repeat(40) + "))");
        Edge.fault(Edge.FULL, "(assert |(and" + " #b1".repeat(41) + "))");
        // Those of an application within are its own.
        Edge.good(1, "(assert (and" + " true".repeat(39) + " (or" + " true".repeat(40) + ")))");
        VectorSolver solver = Edge.of("(declare-const p Bool)");
        Edge.good(solver, 1, "(assert " + ("(and" + " p".repeat(39) + " ").repeat(59) + "p" + ")".repeat(60));
        Bench.due("check()", solver.check(), true);
        Bench.due("what was found", Edge.found(solver), "1");
    }

    /** What a text with a fault had read of its arguments is gone: as many can be open in the next ones. */
    private static void argumentsOfFaultyTexts() {
        VectorSolver solver = Edge.of("(declare-const p Bool)");
        String open = "(assert " + ("(and" + " p".repeat(39) + " ").repeat(59);
        for (int i = 0; i < 3; i++) {
            Edge.fault(solver, Edge.SIGN, open + "|:");
        }
        Edge.good(solver, 1, open + "p" + ")".repeat(60));
    }

    /** 100000. */
    private static void weight() {
        VectorSolver solver = Edge.of(Edge.weight('x', 100000));
        Bench.due("the weight", solver.count(6), 100000);
        Edge.fault(Edge.HEAVY, Edge.weight('x', 100000) + "(assert |true)");
        Edge.good(Edge.of(Edge.weight('x', 99999)), 1, "(assert true)");
        Edge.good(Edge.of(Edge.weight('x', 99998)), 1, "(assert (not true))");
        Edge.fault(Edge.of(Edge.weight('x', 99999)), Edge.HEAVY, "(assert |(not true))");
    }

    private static void weightOfSeveralTexts() {
        VectorSolver solver = Edge.of(Edge.weight('x', 99996));
        Edge.fault(solver, Edge.HEAVY, "(define-fun z () (_ BitVec 4) #x0)(declare-const |y Bool)");
        Bench.due("the weight", solver.count(6), 99996);
        Edge.fault(solver, Edge.HEAVY, "(assert (= |#b00000 #b00000))");
        Edge.fault(solver, Edge.HEAVY, "(declare-const |y (_ BitVec 5))");
        Edge.fault(solver, Edge.HEAVY, "(declare-const |y (_ BitVec 5) :");
        Edge.fault(solver, Edge.HEAVY, "(declare-const |y (Array (_ BitVec 1) (_ BitVec 3)))");
        Edge.fault(solver, Edge.SIGN, "(declare-const y (_ BitVec 4))|:");
        Edge.good(solver, 1, "(declare-const y (_ BitVec 4))");
        Bench.due("the weight", solver.count(6), 100000);
        for (String text : new String[] {"(assert |true)", "(declare-const |z Bool)", "(assert |(= y y))", "(assert (= y |(bvnot y)))",
            "(assert (= y |((_ extract 3 0) y)))"}) {
            Edge.fault(solver, Edge.HEAVY, text);
        }
        Edge.good(solver, 1, "(define-fun z () (_ BitVec 4) y)");
    }

    private static void heavyBehindFull() {
        String wide = "(declare-const x (_ BitVec 64))";
        Edge.fault(Edge.of(wide + Edge.terms(1998)), Edge.HEAVY, "(assert (= x |(bvmul x x x)))");
        Edge.fault(Edge.of(wide + Edge.terms(1999)), Edge.FULL, "(assert (= x |(bvmul x x x)))");
        String heavy = Edge.weight('x', 88000);
        int things = Edge.of(heavy).count(0);
        String array = "(declare-const |y (Array (_ BitVec 6) (_ BitVec 64)))";
        Edge.fault(Edge.of(heavy + Edge.terms(1999 - things)), Edge.HEAVY, array);
        Edge.fault(Edge.of(heavy + Edge.terms(2000 - things)), Edge.FULL, array);
    }

    private static void heavyBehindManyAndSorts() {
        VectorSolver solver = Edge.of(Edge.weight('x', 100000));
        Edge.fault(solver, Edge.MANY, "(assert |(= x0))");
        Edge.fault(solver, Edge.SORTS, "(assert |(not x0))");
        Edge.fault(solver, Edge.HEAVY, "(assert |(= x0 x0))");
        Edge.fault(solver, Edge.HEAVY, "(assert |(= x0 x0) :");
        Edge.fault(solver, Edge.END, "(assert (= x0 x0|");
    }

    /** The greatest weight that one term can have is far beyond the limit, and no less for that. */
    private static void heaviestTerms() {
        VectorSolver solver = Edge.of("(declare-const a (Array (_ BitVec 6) (_ BitVec 64)))(declare-const w (_ BitVec 64))");
        Bench.due("the weight", solver.count(6), 4096 + 64);
        Edge.fault(solver, Edge.HEAVY, "(assert |(distinct" + " a".repeat(40) + "))");
        Edge.fault(solver, Edge.HEAVY, "(assert |(=" + " a".repeat(40) + "))");
        Edge.fault(solver, Edge.HEAVY, "(assert (= w |(bvmul" + " w".repeat(40) + ")))");
        Edge.fault(solver, Edge.HEAVY, "(assert |(distinct a a a))");
        Edge.good(solver, 1, "(assert (distinct a a))");
        Bench.due("the weight", solver.count(6), 4096 + 64 + 40960);
    }

    /** A bracket within 60 open ones. */
    private static void depth() {
        Edge.good(1, "(assert " + "(not ".repeat(59) + "true" + ")".repeat(60));
        Edge.fault(Edge.DEEP, "(assert " + "(not ".repeat(59) + "|(not true" + ")".repeat(61));
        Edge.fault(Edge.DEEP, "(assert " + "(not ".repeat(59) + "|(");
        Edge.fault(Edge.END, "(assert " + "(not ".repeat(58) + "(|");
        VectorSolver solver = new VectorSolver();
        Edge.fault(solver, Edge.DEEP, "(assert " + "(not ".repeat(59) + "|(not");
        Edge.good(solver, 1, "(assert " + "(not ".repeat(59) + "true" + ")".repeat(60));
    }

    /** Brackets that are closed, or stand in a remark, are not open. */
    private static void depthOfWhatIsClosed() {
        Edge.good(61, "(assert true)".repeat(61));
        Edge.good(1, "(assert (and" + " (not true)".repeat(40) + "))");
        Edge.good(1, "(assert (and " + "(and true ".repeat(58) + "true" + ")".repeat(58) + " " + "(and true ".repeat(58) + "true" + ")".repeat(60));
        Edge.fault(Edge.DEEP, "(assert (and " + "(and true ".repeat(58) + "true" + ")".repeat(58) + " " + "(and true ".repeat(58) + "|(not true)");
        Edge.good(1, "(assert ;((((((\n" + "(not ;(\n".repeat(59) + "true" + ")".repeat(60));
    }

    private static void depthOfLetsAndIndexed() {
        String open = "(assert " + "(not ".repeat(56);
        Edge.good(1, open + "(= ((_ extract 0 0) #b1) #b1)" + ")".repeat(57));
        Edge.fault(Edge.DEEP, open + "(not (= (|(_ extract 0 0) #b1) #b1)");
        Edge.good(1, open + "(let ((x true)) x)" + ")".repeat(57));
        Edge.fault(Edge.DEEP, open + "(not (let (|(x true)) x)");
        Edge.fault(Edge.DEEP, open + "(let ((x |(not true))) x)");
        Edge.good(1, open + "(let ((x true)) (not (not x)))" + ")".repeat(57));
        Edge.fault(Edge.DEEP, open + "(let ((x true)) (not (not |(not x)))");
    }
}
