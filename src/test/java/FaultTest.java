/** Promise 5: the kinds of faults and their places. A stroke | in a text marks the place that is due. */
final class FaultTest {
    private static final int SIGN = 1;
    private static final int FORM = 2;
    private static final int END = 3;
    private static final int OTHER = 4;
    private static final int NAME = 5;
    private static final int TAKEN = 6;
    private static final int NUMBER = 7;
    private static final int MANY = 8;
    private static final int SORTS = 9;

    /** What all texts below may use. */
    private static final String KNOWN = "(declare-const p Bool)(declare-const v (_ BitVec 4))"
        + "(declare-const w (_ BitVec 8))(declare-const a (Array (_ BitVec 2) (_ BitVec 4)))"
        + "(define-fun q () Bool (not p))";

    public static void main(String[] args) {
        asking();
        signsAndForms();
        ends();
        others();
        names();
        numbers();
        many();
        sorts();
        firstOne();
        Bench.finish();
    }

    private static void asking() {
        VectorSolver solver = new VectorSolver();
        Bench.dueCall("fault(2)", () -> solver.fault(2), "argument");
        Bench.dueCall("fault(-1)", () -> solver.fault(-1), "argument");
        Bench.read(solver, "(assert)");
        Bench.dueCall("fault(0)", () -> solver.fault(0), 4);
        Bench.dueCall("fault(1)", () -> solver.fault(1), 7);
        Bench.feed(solver, "(assert true)");
        Bench.dueCall("fault(1) before the next text is read", () -> solver.fault(1), 7);
        solver.read();
        Bench.dueCall("fault(0) of a good text", () -> solver.fault(0), 0);
        Bench.dueCall("fault(1) of a good text", () -> solver.fault(1), -1);
    }

    private static void due(int kind, String marked) {
        int place = marked.indexOf('|');
        String text = marked.substring(0, place) + marked.substring(place + 1);
        VectorSolver solver = Bench.after(KNOWN);
        String before = Bench.state(solver);
        int got = Bench.read(solver, text);
        Bench.due(text, got + " fault " + solver.fault(0) + " at " + solver.fault(1), "-1 fault " + kind + " at " + place);
        Bench.due("count(3) behind " + text, solver.count(3), 0);
        solver.read();
        Bench.due("the state behind " + text, Bench.state(solver), before);
    }

    private static void signsAndForms() {
        for (String sign : new String[] {":", "\"", "'", "`", "[", "]", "{", "}", "\\", ",", "\u0000", "\u007f", "\u0080", "\u00ff", "\u000b"}) {
            due(SIGN, "|" + sign);
            due(SIGN, "(assert |" + sign + "p)");
            due(SIGN, "(assert p|" + sign + ")");
        }
        for (String word : new String[] {"00", "01", "5a", "0x1", "#", "#b", "#x", "#b2", "#b0_", "#xg", "#c1", "#B1", "#X1",
            "#x?", "#x0@", "#x<", "#x=", "#x>", "#xG", "#x_", "#b/", "#x/", "#x1#", "0?", "1@",
            "#b" + "0".repeat(65), "#x" + "0".repeat(17), "1.5", "12345678901234567890a"}) {
            due(FORM, "|" + word);
            due(FORM, "(|" + word);
            due(FORM, "(assert |" + word + ")");
            due(FORM, "(assert p |" + word);
            due(FORM, "(declare-const |" + word + " Bool)");
            due(FORM, "(declare-const x (_ BitVec |" + word + "))");
        }
    }

    private static void ends() {
        for (String text : new String[] {"(", "(declare-const", "(declare-const x", "(declare-const x (", "(declare-const x (_",
            "(declare-const x (_ BitVec", "(declare-const x (_ BitVec 4", "(declare-const x (_ BitVec 4)",
            "(declare-const x (Array", "(declare-const x (Array (_ BitVec 2) (_ BitVec 2)", "(declare-const x Bool",
            "(define-fun x", "(define-fun x (", "(define-fun x ()", "(define-fun x () Bool", "(define-fun x () Bool p",
            "(assert", "(assert p", "(assert (", "(assert (and", "(assert (and p", "(assert (let", "(assert (let (",
            "(assert (let ((", "(assert (let ((x", "(assert (let ((x p", "(assert (let ((x p)", "(assert (let ((x p))",
            "(assert (let ((x p)) x", "(assert ((", "(assert ((_", "(assert ((_ extract", "(assert ((_ extract 3",
            "(assert ((_ extract 3 1", "(assert ((_ extract 3 1)", "(assert ((_ zero_extend 3", "(assert p)(assert"}) {
            due(END, text + "|");
            due(END, text + " \n ; remark|");
        }
    }

    private static void others() {
        for (String text : new String[] {"|p", "|)", "|5", "|#b1", "(assert p) |)", "(|)", "(|(", "(|p)", "(|Bool p)", "(|let p)", "(|5)",
            "(|#b1)", "(declare-const |( Bool)", "(declare-const |)", "(declare-const |5 Bool)", "(declare-const |#b1 Bool)",
            "(declare-const x |)", "(declare-const x |x)", "(declare-const x |bool)", "(declare-const x |BitVec)",
            "(declare-const x |5)", "(declare-const x (|Bool))", "(declare-const x (|BitVec 4))", "(declare-const x (|))",
            "(declare-const x (_ |Bool 4))", "(declare-const x (_ |4))", "(declare-const x (_ BitVec |))",
            "(declare-const x (_ BitVec |#b1))", "(declare-const x (_ BitVec |x))", "(declare-const x (_ BitVec |(4)))",
            "(declare-const x (_ BitVec 4 |4))", "(declare-const x (Array |Bool Bool))", "(declare-const x (Array |))",
            "(declare-const x (Array (|Array)))", "(declare-const x (Array (_ BitVec 2) |Bool))",
            "(declare-const x (Array (_ BitVec 2)|))", "(declare-const x (Array (_ BitVec 2) (_ BitVec 2) |2))",
            "(declare-const x Bool |x)", "(declare-const x Bool |(", "(declare-const x (_ BitVec 4) |p)",
            "(define-fun |(x) () Bool p)", "(define-fun x |Bool p)", "(define-fun x (|p) Bool p)", "(define-fun x (|(p Bool)) Bool p)",
            "(define-fun x () |p p)", "(define-fun x () Bool |)", "(define-fun x () Bool |5)", "(define-fun x () Bool p |p)",
            "(assert |)", "(assert |5)", "(assert |99999999999)", "(assert p |p)", "(assert p |()",
            "(assert (|))", "(assert (|p))", "(assert (|unknown p))", "(assert (|true))", "(assert (|_ extract 1 0))",
            "(assert (|extract 1 0 v))", "(assert (|zero_extend 1 v))", "(assert (|sign_extend 1 v))", "(assert (|5 p))",
            "(assert (|#b1 p))", "(assert (|assert p))", "(assert (|Bool p))", "(assert (and p |5))", "(assert (and |0))",
            "(assert (let |p p))", "(assert (let |x))", "(assert (let (|) p))", "(assert (let (|x) p))", "(assert (let ((|5 p)) p))",
            "(assert (let ((|(x) p)) p))", "(assert (let ((|)) p))", "(assert (let ((x |)) p))", "(assert (let ((x p |p)) p))",
            "(assert (let ((x p) |x) p))", "(assert (let ((x p)) |))", "(assert (let ((x p)) x |x))", "(assert (let ((x |5)) x))",
            "(assert ((|p)))", "(assert ((|extract 1 0) v))", "(assert ((|(_ extract 1 0) v)))", "(assert ((_ |bvadd) v v))",
            "(assert ((_ |p) v v))", "(assert ((_ |_) v v))", "(assert ((_ extract |v 0) v))", "(assert ((_ extract 1 |) v))",
            "(assert ((_ extract 1 |#b1) v))", "(assert ((_ extract 1 0 |0) v))", "(assert ((_ zero_extend |) v))",
            "(assert ((_ zero_extend 1 |1) v))", "(assert ((_ sign_extend |x) v))", "(assert ((_ |)))"}) {
            due(OTHER, text);
        }
    }

    private static void names() {
        for (String text : new String[] {"(assert |x)", "(assert |let)", "(assert |_)", "(assert |Bool)", "(assert |bvadd)",
            "(assert |extract)", "(assert |P)", "(assert |assert)", "(assert (and p |r p))", "(define-fun x () Bool |x)",
            "(define-fun x () Bool (not |x))", "(assert (let ((x p) (y |x)) p))", "(assert (let ((x |x)) p))",
            "(assert (and (let ((x p)) x) |x))", "(define-fun x () Bool |y)(declare-const y Bool)", "(assert |pp)", "(assert |=>)"}) {
            due(NAME, text);
        }
        for (String word : ("declare-const define-fun assert Bool _ BitVec Array true false let extract zero_extend sign_extend "
            + "not and or xor => ite = distinct bvnot bvneg bvand bvor bvxor bvadd bvmul bvsub bvudiv bvurem bvsdiv bvsrem "
            + "bvshl bvlshr bvashr bvult bvule bvugt bvuge bvslt bvsle bvsgt bvsge concat select store p v a q").split(" ")) {
            due(TAKEN, "(declare-const |" + word + " Bool)");
            due(TAKEN, "(define-fun |" + word + " () Bool p)");
            if (word.length() > 1 || word.equals("_") || word.equals("=")) {
                due(TAKEN, "(assert (let ((|" + word + " p)) p))");
            }
        }
        due(TAKEN, "(declare-const x Bool)(declare-const |x Bool)");
        due(TAKEN, "(define-fun x () Bool p)(declare-const |x Bool)");
        due(TAKEN, "(assert (let ((x p) (y p) (|x p)) p))");
        due(TAKEN, "(assert (let ((p p) (|p p)) p))");
        due(TAKEN, "(declare-const |p 5");
    }

    private static void numbers() {
        for (String text : new String[] {"(declare-const x (_ BitVec |0))", "(declare-const x (_ BitVec |65))",
            "(declare-const x (_ BitVec |2147483648))", "(declare-const x (_ BitVec |4294967297) x",
            "(declare-const x (_ BitVec |18446744073709551617))", "(declare-const x (Array (_ BitVec |0) (_ BitVec 4)))",
            "(declare-const x (Array (_ BitVec |7) (_ BitVec 4)))", "(declare-const x (Array (_ BitVec 6) (_ BitVec |0)))",
            "(declare-const x (Array (_ BitVec 6) (_ BitVec |65)))", "(assert ((_ extract 1 |2) v))",
            "(assert ((_ extract |2147483648 0) v))", "(assert ((_ extract 2147483647 |2147483648) v))",
            "(assert ((_ extract 0 |1 1) v))", "(assert ((_ zero_extend |2147483648) v))",
            "(assert ((_ sign_extend |" + "9".repeat(300) + ") v))"}) {
            due(NUMBER, text);
        }
    }

    private static void many() {
        for (String one : "not bvnot bvneg".split(" ")) {
            due(MANY, "(assert |(" + one + "))");
            due(MANY, "(assert |(" + one + " p v))");
        }
        for (String more : "and or xor => = distinct bvand bvor bvxor bvadd bvmul concat".split(" ")) {
            due(MANY, "(assert |(" + more + "))");
            due(MANY, "(assert |(" + more + " a))");
        }
        for (String two : ("bvsub bvudiv bvurem bvsdiv bvsrem bvshl bvlshr bvashr "
            + "bvult bvule bvugt bvuge bvslt bvsle bvsgt bvsge select").split(" ")) {
            due(MANY, "(assert |(" + two + "))");
            due(MANY, "(assert |(" + two + " v))");
            due(MANY, "(assert |(" + two + " v v v))");
        }
        for (String three : "ite store".split(" ")) {
            due(MANY, "(assert |(" + three + " a v))");
            due(MANY, "(assert |(" + three + " p p p p))");
        }
        due(MANY, "(assert |((_ extract 1 0)))");
        due(MANY, "(assert |((_ extract 1 0) v v))");
        due(MANY, "(assert |((_ zero_extend 1)))");
        due(MANY, "(assert |((_ sign_extend 1) p p))");
    }

    private static void sorts() {
        for (String text : new String[] {"(assert |v)", "(assert |(bvadd v v))", "(assert |(let ((x v)) x))", "(assert |a p",
            "(define-fun x () (_ BitVec 4) |p)", "(define-fun x () (_ BitVec 5) |v :", "(define-fun x () Bool |#b1)",
            "(define-fun x () (Array (_ BitVec 2) (_ BitVec 5)) |a)", "(define-fun x () (Array (_ BitVec 3) (_ BitVec 4)) |a)",
            "(assert |(not v))", "(assert |(and p v))", "(assert |(or v v))", "(assert |(xor p a))", "(assert |(=> p #b1))",
            "(assert |(ite v p p))", "(assert |(ite p p v))", "(assert |(ite p v w))", "(assert |(= p v))", "(assert |(= v w))",
            "(assert |(distinct v v w))", "(assert |(= a v))", "(assert (= v |(bvnot p)))", "(assert (= a |(bvneg a)))",
            "(assert (= v |(bvand v v w)))", "(assert (= v |(bvadd p p)))", "(assert (= v |(bvmul v p)))", "(assert (= v |(bvsub v w)))",
            "(assert (= v |(bvudiv a a)))", "(assert (= v |(bvshl v #b1)))", "(assert |(bvult v w))", "(assert |(bvsge p p))",
            "(assert |(bvule a a))", "(assert (= v |(concat v p)))", "(assert (= v |(concat a v)))",
            "(assert (= w |(concat #x123456789abcdef0 #b1)))", "(assert (= v |(select v v)))", "(assert (= v |(select a v)))",
            "(assert (= v |(select a p)))", "(assert (= a |(store a #b00 w)))", "(assert (= a |(store a v v)))",
            "(assert (= a |(store v #b00 v)))", "(assert (= a |(store a #b00 a)))", "(assert (= v |((_ extract 4 0) v)))",
            "(assert (= v |((_ extract 0 0) p)))", "(assert (= v |((_ extract 2147483647 2147483647) v)))",
            "(assert (= v |((_ zero_extend 61) v)))", "(assert (= v |((_ sign_extend 2147483647) v)))",
            "(assert (= v |((_ zero_extend 0) p)))", "(assert (= a |((_ sign_extend 0) a)))"}) {
            due(SORTS, text);
        }
    }

    /** Of several faults the first one counts, as the text is read. */
    private static void firstOne() {
        due(NAME, "(assert (and |x v 5 : #b2");
        due(SORTS, "(assert (and |(not v) 5))");
        due(MANY, "(assert (and |(not p v) x))");
        due(OTHER, "(assert (and (not p |5) x))");
        due(MANY, "(assert |(not v v))");
        due(SORTS, "(assert |(and p v)) :");
        due(SIGN, "(assert (and p v |: ))");
        due(END, "(assert (and p v|");
        due(SORTS, "(assert |v");
        due(SORTS, "(assert |v :");
        due(TAKEN, "(declare-const |p :)");
        due(SIGN, "(declare-const x|: Bool)");
        due(NUMBER, "(declare-const x (_ BitVec |65 :");
        due(NUMBER, "(assert ((_ extract 1 |3 :");
        due(OTHER, "(assert p)(|)");
        due(FORM, "(assert p)(|1a)");
        due(END, "(assert p)(declare-const x Bool)(|");
    }
}
