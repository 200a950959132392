/** Boundary cases of commands, names, sorts and terms: widths, numbers of arguments, lets. */
final class EdgeSortsTest {
    private static final String KNOWN = "(declare-const p Bool)(declare-const v (_ BitVec 4))(declare-const i (_ BitVec 2))"
        + "(declare-const a (Array (_ BitVec 2) (_ BitVec 4)))(declare-const w (_ BitVec 64))(declare-const n (_ BitVec 63))";

    public static void main(String[] args) {
        vectorWidths();
        indexWidths();
        cellWidths();
        greatestNumeral();
        constantWidths();
        ownTerm();
        reservedWords();
        takenNames();
        letHasOneBinding();
        letSymbols();
        letScopes();
        argumentsOfOne();
        argumentsOfTwo();
        argumentsOfThree();
        argumentsOfTwoOrMore();
        argumentsOfIndexed();
        fortyArguments();
        extracts();
        extensions();
        concats();
        equalSorts();
        arraySorts();
        definedAndAssertedSorts();
        termNumbers();
        Bench.finish();
    }

    private static VectorSolver known() {
        return Edge.of(KNOWN);
    }

    private static void good(String term) {
        Edge.good(known(), 1, "(assert (let ((unused " + term + ")) p))");
    }

    private static void fault(int kind, String marked) {
        Edge.fault(known(), kind, "(assert (let ((unused " + marked + ")) p))");
    }

    /** n 1 .. 64. */
    private static void vectorWidths() {
        for (int n : new int[] {1, 2, 63, 64}) {
            VectorSolver solver = Edge.of("(declare-const x (_ BitVec " + n + "))");
            Bench.due("the width", solver.thing(0, 1), n);
            Bench.due("SIZE", solver.count(5), n);
            Edge.good(solver, 1, "(define-fun y () (_ BitVec " + n + ") x)");
        }
        for (int n : new int[] {0, 65, 128, Integer.MAX_VALUE}) {
            Edge.fault(Edge.NUMBER, "(declare-const x (_ BitVec |" + n + "))");
            Edge.fault(Edge.NUMBER, "(define-fun x () (_ BitVec |" + n + ") #b1)");
        }
    }

    /** i 1 .. 6. */
    private static void indexWidths() {
        for (int i = 1; i <= 6; i++) {
            VectorSolver solver = Edge.of("(declare-const x (Array (_ BitVec " + i + ") (_ BitVec 1)))");
            Bench.due("the index width", solver.thing(0, 2), i);
            Bench.due("SIZE", solver.count(5), 1 << i);
        }
        for (int i : new int[] {0, 7, 64, Integer.MAX_VALUE}) {
            Edge.fault(Edge.NUMBER, "(declare-const x (Array (_ BitVec |" + i + ") (_ BitVec 1)))");
            Edge.fault(Edge.NUMBER, "(define-fun x () (Array (_ BitVec |" + i + ") (_ BitVec 1)) #b1)");
        }
    }

    private static void cellWidths() {
        for (int n : new int[] {1, 64}) {
            VectorSolver solver = Edge.of("(declare-const x (Array (_ BitVec 6) (_ BitVec " + n + ")))");
            Bench.due("the width", solver.thing(0, 1), n);
            Bench.due("SIZE", solver.count(5), 64 * n);
        }
        for (int n : new int[] {0, 65}) {
            Edge.fault(Edge.NUMBER, "(declare-const x (Array (_ BitVec 6) (_ BitVec |" + n + ")))");
        }
    }

    /** Above 2147483647 a numeral is out of all bounds. */
    private static void greatestNumeral() {
        fault(Edge.SORTS, "|((_ extract 2147483647 2147483647) v)");
        fault(Edge.NUMBER, "((_ extract |2147483648 0) v)");
        fault(Edge.NUMBER, "((_ extract 2147483647 |2147483648) v)");
        fault(Edge.SORTS, "|((_ zero_extend 2147483647) v)");
        fault(Edge.NUMBER, "((_ zero_extend |2147483648) v)");
        fault(Edge.SORTS, "|((_ sign_extend 2147483647) v)");
        fault(Edge.NUMBER, "((_ sign_extend |2147483648) v)");
        for (String wrapped : new String[] {"4294967296", "4294967297", "18446744073709551616", "18446744073709551617", "21474836470",
            "21474836471", "1" + "0".repeat(400)}) {
            Edge.fault(Edge.NUMBER, "(declare-const x (_ BitVec |" + wrapped + "))");
            fault(Edge.NUMBER, "((_ zero_extend |" + wrapped + ") v)");
        }
    }

    /** A binary word is as wide as it has digits, a hex word four times as wide. */
    private static void constantWidths() {
        for (int digits : new int[] {1, 2, 63, 64}) {
            Edge.good(1, "(define-fun x () (_ BitVec " + digits + ") #b" + "0".repeat(digits) + ")");
        }
        for (int digits : new int[] {1, 2, 15, 16}) {
            Edge.good(1, "(define-fun x () (_ BitVec " + 4 * digits + ") #x" + "0".repeat(digits) + ")");
        }
        Edge.fault(Edge.SORTS, "(define-fun x () (_ BitVec 1) |#b01)");
        Edge.fault(Edge.SORTS, "(define-fun x () (_ BitVec 1) |#x1)");
        Edge.fault(Edge.SORTS, "(define-fun x () Bool |#b1)");
    }

    /** A name is one behind its command, not in its own term. */
    private static void ownTerm() {
        Edge.fault(Edge.NAME, "(define-fun x () Bool |x)");
        Edge.fault(Edge.NAME, "(define-fun x () Bool (not (and true |x)))");
        Edge.good(2, "(define-fun x () Bool true)(assert x)");
        Edge.good(2, "(declare-const x Bool)(assert x)");
        Edge.fault(Edge.NAME, "(assert |x)(declare-const x Bool)");
    }

    private static void reservedWords() {
        for (String word : ("declare-const define-fun assert Bool _ BitVec Array true false let extract zero_extend sign_extend "
            + "not and or xor => ite = distinct bvnot bvneg bvand bvor bvxor bvadd bvmul bvsub bvudiv bvurem bvsdiv bvsrem "
            + "bvshl bvlshr bvashr bvult bvule bvugt bvuge bvslt bvsle bvsgt bvsge concat select store").split(" ")) {
            Edge.fault(Edge.TAKEN, "(declare-const |" + word + " Bool)");
            Edge.fault(Edge.TAKEN, "(define-fun |" + word + " () Bool true)");
            Edge.fault(Edge.TAKEN, "(assert (let ((|" + word + " true)) true))");
            if (!word.equals("true") && !word.equals("false")) {
                Edge.fault(Edge.NAME, "(assert |" + word + ")");
            }
            Edge.good(2, "(declare-const " + word + "_ Bool)(assert " + word + "_)");
        }
        for (String word : "bool True LET bvnand bvsmod bvcomp iff implies __ == =>> <= check-sat rotate_left repeat forall".split(" ")) {
            Edge.good(3, "(declare-const " + word + " Bool)(assert " + word + ")(assert (let ((" + word + " true)) " + word + "))");
        }
    }

    private static void takenNames() {
        Edge.fault(Edge.TAKEN, "(declare-const x Bool)(declare-const |x Bool)");
        Edge.fault(Edge.TAKEN, "(declare-const x Bool)(define-fun |x () Bool true)");
        Edge.fault(Edge.TAKEN, "(define-fun x () Bool true)(declare-const |x Bool)");
        Edge.fault(known(), Edge.TAKEN, "(declare-const |p Bool)");
        Edge.fault(known(), Edge.TAKEN, "(define-fun |a () Bool p)");
        Edge.good(known(), 2, "(declare-const P Bool)(declare-const pp Bool)");
        // A symbol of a let is no name behind it.
        Edge.good(2, "(assert (let ((x true)) x))(declare-const x Bool)");
        // What a text with a fault would have named is none.
        VectorSolver solver = new VectorSolver();
        Edge.fault(solver, Edge.NAME, "(declare-const x Bool)(define-fun y () Bool x)(assert |z)");
        Edge.fault(solver, Edge.NAME, "(assert |x)");
        Edge.good(solver, 2, "(declare-const y Bool)(declare-const x Bool)");
        Bench.due("names", solver.count(1), 2);
    }

    private static void letHasOneBinding() {
        Edge.fault(known(), Edge.OTHER, "(assert (let (|) p))");
        Edge.fault(known(), Edge.OTHER, "(assert (let |p))");
        Edge.good(known(), 1, "(assert (let ((x p)) x))");
        Edge.good(known(), 1, "(assert (let ((x p)(y p)) x))");
        Edge.fault(known(), Edge.OTHER, "(assert (let ((x p)) x |x))");
        Edge.fault(known(), Edge.OTHER, "(assert (let ((x p)) |))");
        Edge.fault(known(), Edge.OTHER, "(assert (let ((x p |p)) x))");
        Edge.fault(known(), Edge.OTHER, "(assert (let ((x |)) x))");
    }

    /** No symbol twice in one let; names and symbols of lets about it may be bound again. */
    private static void letSymbols() {
        Edge.fault(known(), Edge.TAKEN, "(assert (let ((x p) (|x p)) x))");
        Edge.fault(known(), Edge.TAKEN, "(assert (let ((x p) (y p) (|x v)) x))");
        Edge.good(known(), 1, "(assert (let ((x p) (xx p) (X p)) x))");
        Edge.good(known(), 1, "(assert (let ((p p) (v p)) (and p v)))");
        Edge.good(known(), 1, "(assert (let ((x p)) (let ((x (not x))) x)))");
        Edge.good(known(), 1, "(assert (let ((x (let ((x p)) x)) (y p)) x))");
    }

    private static void letScopes() {
        Edge.fault(known(), Edge.NAME, "(assert (let ((x p) (y |x)) y))");
        Edge.fault(known(), Edge.NAME, "(assert (let ((x |x)) x))");
        Edge.fault(known(), Edge.NAME, "(assert (and (let ((x p)) x) |x))");
        Edge.fault(known(), Edge.NAME, "(assert (let ((y (let ((x p)) x))) |x))");
        Edge.fault(known(), Edge.NAME, "(assert (let ((x p)) x))(assert |x)");
        // What a let before it bound is bound no more, not even where the next one reads its own terms.
        Edge.fault(known(), Edge.NAME, "(assert (and (let ((x p)) x) (let ((y |y)) y)))");
        Edge.fault(known(), Edge.NAME, "(assert (and (let ((y p)) y) (let ((y |y)) y)))");
        // The innermost one counts: here a vector within, a Bool without.
        Edge.good(known(), 1, "(assert (let ((x v)) (and (let ((x p)) x) (= x v))))");
        Edge.fault(known(), Edge.SORTS, "(assert (let ((x p)) (let ((x v)) |(not x))))");
        // The terms of the bindings are read as outside of it.
        Edge.good(known(), 1, "(assert (let ((p v) (v p)) (and v (= p #x1))))");
        Edge.good(known(), 1, "(assert (let ((x p)) (let ((x v) (y x)) y)))");
    }

    private static void dueArguments(String op, String argument, int least, int most) {
        for (int many = 0; many <= 5; many++) {
            String term = "(" + op + (" " + argument).repeat(many) + ")";
            if (many < least || many > most) {
                fault(Edge.MANY, "|" + term);
            } else {
                good(term);
            }
        }
    }

    private static void argumentsOfOne() {
        dueArguments("not", "p", 1, 1);
        dueArguments("bvnot", "v", 1, 1);
        dueArguments("bvneg", "v", 1, 1);
    }

    private static void argumentsOfTwo() {
        for (String op : ("bvsub bvudiv bvurem bvsdiv bvsrem bvshl bvlshr bvashr "
            + "bvult bvule bvugt bvuge bvslt bvsle bvsgt bvsge").split(" ")) {
            dueArguments(op, "v", 2, 2);
        }
        fault(Edge.MANY, "|(select)");
        fault(Edge.MANY, "|(select a)");
        good("(select a i)");
        fault(Edge.MANY, "|(select a i i)");
    }

    private static void argumentsOfThree() {
        dueArguments("ite", "p", 3, 3);
        fault(Edge.MANY, "|(store)");
        fault(Edge.MANY, "|(store a i)");
        good("(store a i v)");
        fault(Edge.MANY, "|(store a i v v)");
    }

    private static void argumentsOfTwoOrMore() {
        for (String op : "and or xor =>".split(" ")) {
            dueArguments(op, "p", 2, 40);
        }
        for (String op : "bvand bvor bvxor bvadd bvmul = distinct concat".split(" ")) {
            dueArguments(op, "v", 2, 40);
        }
        dueArguments("=", "p", 2, 40);
        dueArguments("distinct", "a", 2, 40);
    }

    private static void argumentsOfIndexed() {
        dueArguments("(_ extract 1 0)", "v", 1, 1);
        dueArguments("(_ zero_extend 1)", "v", 1, 1);
        dueArguments("(_ sign_extend 1)", "v", 1, 1);
    }

    /** 40 arguments of an operator, and no 41st one, whichever operator it is. */
    private static void fortyArguments() {
        for (String op : "and or xor =>".split(" ")) {
            good("(" + op + " p".repeat(40) + ")");
            fault(Edge.FULL, "|(" + op + " p".repeat(41) + ")");
        }
        for (String op : "bvand bvor bvxor bvadd bvmul = distinct concat".split(" ")) {
            good("(" + op + " #b1".repeat(40) + ")");
            fault(Edge.FULL, "|(" + op + " #b1".repeat(41) + ")");
        }
        for (String op : "not bvnot bvsub select store ite (_*extract*1*0) (_*zero_extend*0)".split(" ")) {
            String shown = op.replace('*', ' ');
            fault(Edge.MANY, "|(" + shown + " p".repeat(40) + ")");
            fault(Edge.FULL, "|(" + shown + " p".repeat(41) + ")");
        }
    }

    /** l not above h, h less than the width. */
    private static void extracts() {
        good("((_ extract 0 0) v)");
        good("((_ extract 3 0) v)");
        good("((_ extract 3 3) v)");
        good("((_ extract 63 0) w)");
        good("((_ extract 63 63) w)");
        good("((_ extract 0 0) #b1)");
        fault(Edge.NUMBER, "((_ extract 0 |1) v)");
        fault(Edge.NUMBER, "((_ extract 3 |4) v)");
        fault(Edge.SORTS, "|((_ extract 4 0) v)");
        fault(Edge.SORTS, "|((_ extract 4 4) v)");
        fault(Edge.SORTS, "|((_ extract 64 0) w)");
        fault(Edge.SORTS, "|((_ extract 1 0) #b1)");
        fault(Edge.SORTS, "|((_ extract 0 0) p)");
        fault(Edge.SORTS, "|((_ extract 0 0) a)");
        // Those of an application within are its own.
        Edge.good(known(), 1, "(define-fun x () (_ BitVec 3) ((_ extract 4 2) ((_ zero_extend 1) ((_ extract 3 0) v))))");
        fault(Edge.SORTS, "|((_ extract 4 2) ((_ extract 3 0) w))");
        Edge.good(known(), 1, "(define-fun x () (_ BitVec 64) ((_ extract 63 0) w))");
        Edge.good(known(), 1, "(define-fun x () (_ BitVec 1) ((_ extract 63 63) w))");
    }

    /** k bits more, 64 wide at most; 0 is fine. */
    private static void extensions() {
        for (String op : "zero_extend sign_extend".split(" ")) {
            good("((_ " + op + " 0) v)");
            good("((_ " + op + " 60) v)");
            good("((_ " + op + " 0) w)");
            good("((_ " + op + " 1) n)");
            good("((_ " + op + " 63) #b1)");
            fault(Edge.SORTS, "|((_ " + op + " 61) v)");
            fault(Edge.SORTS, "|((_ " + op + " 1) w)");
            fault(Edge.SORTS, "|((_ " + op + " 2) n)");
            fault(Edge.SORTS, "|((_ " + op + " 64) #b1)");
            fault(Edge.SORTS, "|((_ " + op + " 2147483647) #b1)");
            fault(Edge.SORTS, "|((_ " + op + " 0) p)");
            fault(Edge.SORTS, "|((_ " + op + " 0) a)");
            Edge.good(known(), 1, "(define-fun x () (_ BitVec 64) ((_ " + op + " 60) v))");
        }
    }

    /** As wide as all together, 64 at most. */
    private static void concats() {
        Edge.good(known(), 1, "(define-fun x () (_ BitVec 2) (concat #b1 #b0))");
        Edge.good(known(), 1, "(define-fun x () (_ BitVec 64) (concat n #b0))");
        Edge.good(known(), 1, "(define-fun x () (_ BitVec 64) (concat" + " v".repeat(16) + "))");
        Edge.good(known(), 1, "(define-fun x () (_ BitVec 64) (concat" + " #b1".repeat(39) + " #b" + "1".repeat(25) + "))");
        fault(Edge.SORTS, "|(concat n i)");
        fault(Edge.SORTS, "|(concat w #b1)");
        fault(Edge.SORTS, "|(concat #b1 w)");
        fault(Edge.SORTS, "|(concat" + " v".repeat(16) + " #b1)");
        fault(Edge.SORTS, "|(concat" + " #b1".repeat(39) + " #b" + "1".repeat(26) + ")");
        fault(Edge.SORTS, "|(concat" + " w".repeat(40) + ")");
        fault(Edge.SORTS, "|(concat p v)");
        fault(Edge.SORTS, "|(concat v p)");
        fault(Edge.SORTS, "|(concat v a)");
    }

    /** The first argument and the last one count like those between. */
    private static void equalSorts() {
        for (String op : "and or xor =>".split(" ")) {
            fault(Edge.SORTS, "|(" + op + " #b1 p p)");
            fault(Edge.SORTS, "|(" + op + " p #b1 p)");
            fault(Edge.SORTS, "|(" + op + " p p #b1)");
            fault(Edge.SORTS, "|(" + op + " #b1 #b1)");
        }
        for (String op : "= distinct bvand bvor bvxor bvadd bvmul".split(" ")) {
            fault(Edge.SORTS, "|(" + op + " w n n)");
            fault(Edge.SORTS, "|(" + op + " n w n)");
            fault(Edge.SORTS, "|(" + op + " n n w)");
        }
        for (String op : "bvsub bvudiv bvurem bvsdiv bvsrem bvshl bvlshr bvashr bvult bvule bvugt bvuge bvslt bvsle bvsgt bvsge".split(" ")) {
            fault(Edge.SORTS, "|(" + op + " w n)");
            fault(Edge.SORTS, "|(" + op + " p p)");
            fault(Edge.SORTS, "|(" + op + " a a)");
        }
        fault(Edge.SORTS, "|(ite #b1 p p)");
        fault(Edge.SORTS, "|(ite p v p)");
        fault(Edge.SORTS, "|(ite p w n)");
        good("(ite p a a)");
        good("(= p p p)");
        good("(= a a)");
        fault(Edge.SORTS, "|(= p #b1)");
        fault(Edge.SORTS, "|(= a (select a i))");
    }

    private static void arraySorts() {
        String arrays = "(declare-const b (Array (_ BitVec 1) (_ BitVec 64)))(declare-const c (Array (_ BitVec 6) (_ BitVec 1)))"
            + "(declare-const d (Array (_ BitVec 1) (_ BitVec 1)))";
        VectorSolver solver = Edge.of(KNOWN + arrays);
        Edge.good(solver, 1, "(define-fun x () (_ BitVec 64) (select b #b1))");
        Edge.good(solver, 1, "(define-fun y () (_ BitVec 1) (select c #b111111))");
        Edge.good(solver, 1, "(define-fun z () (Array (_ BitVec 1) (_ BitVec 64)) (store b #b0 w))");
        Edge.fault(solver, Edge.SORTS, "(assert (= x |(select b i)))");
        Edge.fault(solver, Edge.SORTS, "(assert (= y |(select c #b11111)))");
        Edge.fault(solver, Edge.SORTS, "(assert (= y |(select c #b1111111)))");
        Edge.fault(solver, Edge.SORTS, "(assert (= y |(select c c)))");
        Edge.fault(solver, Edge.SORTS, "(assert (= y |(select w #b1)))");
        Edge.fault(solver, Edge.SORTS, "(assert (= b |(store b #b0 n)))");
        Edge.fault(solver, Edge.SORTS, "(assert (= b |(store b i w)))");
        Edge.fault(solver, Edge.SORTS, "(assert (= d |(store d p #b1)))");
        Edge.fault(solver, Edge.SORTS, "(assert (= d |(store d #b1 p)))");
        Edge.fault(solver, Edge.SORTS, "(assert |(= b c))");
        Edge.fault(solver, Edge.SORTS, "(assert |(= c d))");
    }

    private static void definedAndAssertedSorts() {
        Edge.fault(known(), Edge.SORTS, "(define-fun x () (_ BitVec 63) |w)");
        Edge.fault(known(), Edge.SORTS, "(define-fun x () (_ BitVec 64) |n)");
        Edge.fault(known(), Edge.SORTS, "(define-fun x () Bool |#b1)");
        Edge.fault(known(), Edge.SORTS, "(define-fun x () (_ BitVec 1) |p)");
        Edge.fault(known(), Edge.SORTS, "(define-fun x () (Array (_ BitVec 2) (_ BitVec 3)) |a)");
        Edge.fault(known(), Edge.SORTS, "(define-fun x () (Array (_ BitVec 1) (_ BitVec 4)) |a)");
        Edge.fault(known(), Edge.SORTS, "(define-fun x () (_ BitVec 4) |a)");
        Edge.good(known(), 1, "(define-fun x () (Array (_ BitVec 2) (_ BitVec 4)) a)");
        Edge.fault(known(), Edge.SORTS, "(assert |#b1)");
        Edge.fault(known(), Edge.SORTS, "(assert |a)");
        Edge.good(known(), 1, "(assert p)");
    }

    /** A name, a bound symbol and a let make no term; each constant, application and thing makes one. */
    private static void termNumbers() {
        VectorSolver solver = known();
        int[] due = {0, 0, 1, 1, 1, 2, 1, 3};
        String[] commands = {"(assert p)", "(define-fun q () Bool p)", "(assert true)", "(assert (not q))", "(assert (let ((x p)) (not x)))",
            "(assert (let ((x true)) (let ((y x)) (and x y))))", "(declare-const z Bool)", "(assert (= true true))"};
        int before = solver.count(0);
        Bench.due("terms of six things", before, 6);
        for (int i = 0; i < commands.length; i++) {
            Edge.good(solver, 1, commands[i]);
            Bench.due("terms of " + commands[i], solver.count(0) - before, due[i]);
            before = solver.count(0);
        }
    }
}
