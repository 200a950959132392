/** Boundary cases of promises 4 and 5: each kind of fault with its place, and the order in which they are asked. */
final class EdgeFaultsTest {
    private static final String KNOWN = "(declare-const p Bool)(declare-const v (_ BitVec 4))"
        + "(declare-const a (Array (_ BitVec 2) (_ BitVec 4)))";

    public static void main(String[] args) {
        beforeTheFirstText();
        whatIsAsked();
        ofTheLastText();
        commandsAreCounted();
        nothingOfAFaultyTextCounts();
        whatWasFoundStays();
        placeIsTheFirstByte();
        placeIsTheTextsEnd();
        signWhenWanted();
        formWhenWanted();
        notBeforeItIsWanted();
        endOnlyWithinACommand();
        numberOnlyWhereOneMustStand();
        numberInItsPlace();
        extractsNumbersInOrder();
        manyBeforeSorts();
        manyAndSortsAtTheEndBracket();
        placeOfAnApplication();
        sortOfATermBeforeWhatFollows();
        deepBeforeAllElse();
        takenBeforeTheRest();
        operatorsInTheirPlace();
        Bench.finish();
    }

    private static void fault(int kind, String marked) {
        Edge.fault(Edge.of(KNOWN), kind, marked);
    }

    private static void beforeTheFirstText() {
        VectorSolver solver = new VectorSolver();
        Bench.dueCall("fault(0)", () -> solver.fault(0), 0);
        Bench.dueCall("fault(1)", () -> solver.fault(1), -1);
        Bench.feed(solver, ":");
        Bench.dueCall("fault(0) of what was only fed", () -> solver.fault(0), 0);
        Bench.dueCall("fault(1) of what was only fed", () -> solver.fault(1), -1);
    }

    private static void whatIsAsked() {
        VectorSolver solver = new VectorSolver();
        Bench.read(solver, "(:");
        for (int what : new int[] {-1, 2, Integer.MIN_VALUE, Integer.MAX_VALUE}) {
            Bench.dueCall("fault(" + what + ")", () -> solver.fault(what), "argument");
        }
        Bench.dueCall("fault(0)", () -> solver.fault(0), 1);
        Bench.dueCall("fault(1)", () -> solver.fault(1), 1);
    }

    private static void ofTheLastText() {
        VectorSolver solver = new VectorSolver();
        Edge.fault(solver, Edge.SIGN, "|:");
        Bench.feed(solver, "(assert");
        Bench.due("until the next one is read", solver.fault(0) + " at " + solver.fault(1), "1 at 0");
        solver.trim(7);
        Bench.due("read() of nothing", solver.read(), 0);
        Bench.due("of a text of nothing", solver.fault(0) + " at " + solver.fault(1), "0 at -1");
        Edge.fault(solver, Edge.END, "(|");
        Edge.good(solver, 1, "(assert true)");
    }

    private static void commandsAreCounted() {
        Edge.good(0, "");
        Edge.good(0, "\n;remark");
        Edge.good(1, "(declare-const x Bool)");
        Edge.good(1, "(define-fun x () Bool true)");
        Edge.good(1, "(assert true)");
        Edge.good(3, "(declare-const x Bool)(define-fun y () Bool x)(assert y)");
        VectorSolver solver = Edge.of(KNOWN);
        Edge.good(solver, 1, "(assert p)");
        Edge.good(solver, 500 - 1, "(assert p)".repeat(499));
    }

    private static void nothingOfAFaultyTextCounts() {
        VectorSolver solver = Edge.of(KNOWN);
        solver.read();
        String before = Bench.state(solver);
        String most = "(declare-const x Bool)(define-fun y () Bool (not x))(assert y)";
        Edge.fault(solver, Edge.SIGN, most + "|:");
        Bench.due("bytes", solver.count(3), 0);
        solver.read();
        Bench.due("the state behind a fault at the very end", Bench.state(solver), before);
        Edge.good(solver, 3, most);
        Bench.due("the number of its name", solver.thing(3, 3), 3);
    }

    private static void whatWasFoundStays() {
        VectorSolver solver = Edge.of("(declare-const x (_ BitVec 2))(assert (bvugt x #b01))");
        Bench.due("check()", solver.check(), true);
        Edge.fault(solver, Edge.NAME, "(declare-const y (_ BitVec 60))(assert |z)");
        Bench.due("what was found", Edge.found(solver), "2");
        Bench.due("named(0)", solver.named(0), 2L);
        Bench.due("more()", solver.more(), true);
        Bench.due("what was found", Edge.found(solver), "3");
    }

    private static void placeIsTheFirstByte() {
        Edge.fault(Edge.SIGN, "|:");
        Edge.fault(Edge.FORM, "|00");
        Edge.fault(Edge.OTHER, "|x");
        Edge.fault(Edge.OTHER, "|)");
        Edge.fault(Edge.OTHER, "  ;x\n |word");
        fault(Edge.NAME, "(assert |unknown)");
        fault(Edge.NUMBER, "(declare-const x (_ BitVec |128))");
    }

    /** Behind all others, blanks and remarks too. */
    private static void placeIsTheTextsEnd() {
        Edge.fault(Edge.END, "(|");
        Edge.fault(Edge.END, "( |");
        Edge.fault(Edge.END, "(assert true \t\r\n |");
        Edge.fault(Edge.END, "(assert true ;) remark|");
        Edge.fault(Edge.END, "(assert true ;) remark\n  |");
        Edge.fault(Edge.END, "(assert true)(assert|");
        Edge.fault(Edge.END, "(declare-const|");
    }

    /** In each place where a word or bracket is wanted, whatever must stand there. */
    private static void signWhenWanted() {
        for (String text : new String[] {"|:", "(|:", "(declare-const |:", "(declare-const x |:", "(declare-const x (|:",
            "(declare-const x (_ |:", "(declare-const x (_ BitVec |:", "(declare-const x (_ BitVec 4|:", "(declare-const x (Array |:",
            "(declare-const x (Array (_ BitVec 2) |:", "(declare-const x (Array (_ BitVec 2) (_ BitVec 2)|:", "(declare-const x Bool|:",
            "(define-fun |:", "(define-fun x |:", "(define-fun x (|:", "(define-fun x ()|:", "(define-fun x () Bool |:", "(define-fun x () Bool p|:",
            "(assert |:", "(assert (|:", "(assert (and|:", "(assert (and p|:", "(assert ((|:", "(assert ((_ |:", "(assert ((_ extract |:",
            "(assert ((_ extract 3 |:", "(assert ((_ extract 3 1|:", "(assert ((_ extract 3 1)|:", "(assert (let |:", "(assert (let (|:",
            "(assert (let ((|:", "(assert (let ((x |:", "(assert (let ((x p|:", "(assert (let ((x p)|:", "(assert (let ((x p))|:",
            "(assert (let ((x p)) x|:", "(assert p|:", "(assert p)|:"}) {
            fault(Edge.SIGN, text);
            fault(Edge.FORM, text.replace("|:", " |0x"));
            boolean within = !text.equals("|:") && !text.equals("(assert p)|:");
            if (within) {
                fault(Edge.END, text.replace("|:", "|"));
            }
        }
    }

    private static void formWhenWanted() {
        fault(Edge.FORM, "(assert |#b)");
        fault(Edge.FORM, "(|#b true)");
        fault(Edge.FORM, "(declare-const |0a Bool)");
        fault(Edge.FORM, "(declare-const x (_ BitVec |04))");
        fault(Edge.FORM, "(assert (let ((|9x p)) p))");
        fault(Edge.FORM, "(assert (and p p) |00");
    }

    /** What is wrong behind a fault is never wanted. */
    private static void notBeforeItIsWanted() {
        fault(Edge.NAME, "(assert |x : 00");
        fault(Edge.OTHER, "(assert |) : 00");
        fault(Edge.TAKEN, "(declare-const |p : 00");
        fault(Edge.NUMBER, "(declare-const x (_ BitVec |0 : 00");
        fault(Edge.SORTS, "(assert |v : 00");
        fault(Edge.MANY, "(assert |(not) : 00");
        fault(Edge.SORTS, "(assert |(not v) : 00");
        fault(Edge.SIGN, "(assert p)|: 00");
        fault(Edge.FORM, "(assert p)|00 :");
    }

    private static void endOnlyWithinACommand() {
        Edge.good(1, "(assert true)");
        Edge.good(1, "(assert true) ;");
        Edge.fault(Edge.END, "(assert true|");
        Edge.fault(Edge.END, "(assert true)(|");
    }

    /** Elsewhere a numeral, be it ever so great, is another word. */
    private static void numberOnlyWhereOneMustStand() {
        for (String numeral : new String[] {"0", "1", "65", "2147483647", "2147483648", "99999999999999999999"}) {
            fault(Edge.OTHER, "|" + numeral);
            fault(Edge.OTHER, "(|" + numeral);
            fault(Edge.OTHER, "(assert |" + numeral + ")");
            fault(Edge.OTHER, "(assert (|" + numeral + " p))");
            fault(Edge.OTHER, "(assert (and p |" + numeral + "))");
            fault(Edge.OTHER, "(declare-const |" + numeral + " Bool)");
            fault(Edge.OTHER, "(declare-const x |" + numeral + ")");
            fault(Edge.OTHER, "(declare-const x (_ BitVec 4 |" + numeral + "))");
            fault(Edge.OTHER, "(assert ((_ extract 1 0 |" + numeral + ") v))");
            fault(Edge.OTHER, "(assert (let ((|" + numeral + " p)) p))");
        }
        for (String other : new String[] {"x", "#b1", "#xF", "Bool", "(", ")"}) {
            fault(Edge.OTHER, "(declare-const x (_ BitVec |" + other);
            fault(Edge.OTHER, "(assert ((_ extract |" + other);
            fault(Edge.OTHER, "(assert ((_ extract 1 |" + other);
            fault(Edge.OTHER, "(assert ((_ zero_extend |" + other);
        }
    }

    private static void numberInItsPlace() {
        fault(Edge.NUMBER, "(declare-const x (Array (_ BitVec |7) (_ BitVec 65)))");
        fault(Edge.NUMBER, "(declare-const x (Array (_ BitVec 6) (_ BitVec |65)))");
        fault(Edge.NUMBER, "(define-fun x () (_ BitVec |65) v)");
        fault(Edge.NUMBER, "(assert ((_ extract |2147483648 2147483648) v))");
        fault(Edge.NUMBER, "(assert ((_ extract 3 |2147483648) v))");
        fault(Edge.NUMBER, "(assert ((_ sign_extend |2147483648) v))");
    }

    /** Each by itself when it is read, against each other when l is, against the width with SORTS. */
    private static void extractsNumbersInOrder() {
        fault(Edge.NUMBER, "(assert ((_ extract |2147483648 :");
        fault(Edge.SIGN, "(assert ((_ extract 2147483647 |:");
        fault(Edge.NUMBER, "(assert ((_ extract 1 |2 :");
        fault(Edge.SIGN, "(assert ((_ extract 1 1 |:");
        fault(Edge.SIGN, "(assert ((_ extract 99 98) v |:");
        fault(Edge.MANY, "(assert |((_ extract 99 98) v v))");
        fault(Edge.SORTS, "(assert |((_ extract 99 98) v) :");
        fault(Edge.SIGN, "(assert ((_ zero_extend 99) v |:");
        fault(Edge.MANY, "(assert |((_ zero_extend 99)))");
    }

    private static void manyBeforeSorts() {
        fault(Edge.MANY, "(assert |(not v v))");
        fault(Edge.MANY, "(assert |(and v))");
        fault(Edge.MANY, "(assert |(bvadd p))");
        fault(Edge.MANY, "(assert |(ite v p))");
        fault(Edge.MANY, "(assert |(select p p p))");
        fault(Edge.MANY, "(assert |(store p p))");
        fault(Edge.MANY, "(assert |((_ sign_extend 1) p p))");
        fault(Edge.MANY, "(assert |(bvult p a v))");
    }

    /** All arguments are read first. */
    private static void manyAndSortsAtTheEndBracket() {
        fault(Edge.END, "(assert (not p p|");
        fault(Edge.NAME, "(assert (not p p |x))");
        fault(Edge.SIGN, "(assert (not p p |:");
        fault(Edge.OTHER, "(assert (not p p |5))");
        fault(Edge.END, "(assert (and v p|");
        fault(Edge.NAME, "(assert (and v p |x))");
        fault(Edge.SORTS, "(assert (and v |(not v)))");
        fault(Edge.MANY, "(assert (not p |(not)))");
        fault(Edge.SORTS, "(assert |(and v p) :");
        fault(Edge.MANY, "(assert |(not p p) :");
    }

    private static void placeOfAnApplication() {
        fault(Edge.SORTS, "(assert (and p |((_ extract 4 0) v)))");
        fault(Edge.MANY, "(assert (and p |((_ extract 1 0))))");
        fault(Edge.SORTS, "(assert (and p (or p |(not v))))");
        fault(Edge.SORTS, "(assert |(and p ((_ extract 3 0) v)))");
        fault(Edge.MANY, "(assert (let ((x |(=> p))) x))");
    }

    /** At the place where the term begins. */
    private static void sortOfATermBeforeWhatFollows() {
        fault(Edge.SORTS, "(assert |v");
        fault(Edge.SORTS, "(assert |v p)");
        fault(Edge.SORTS, "(assert |(let ((x v)) x) :");
        fault(Edge.SORTS, "(assert |((_ extract 0 0) v)");
        fault(Edge.SORTS, "(define-fun x () Bool |v");
        fault(Edge.SORTS, "(define-fun x () (_ BitVec 4) |(not p) :");
        fault(Edge.OTHER, "(assert p |v)");
        fault(Edge.OTHER, "(define-fun x () (_ BitVec 4) v |v)");
        fault(Edge.END, "(assert p|");
    }

    private static void deepBeforeAllElse() {
        String open = "(assert " + "(not ".repeat(59);
        fault(Edge.DEEP, open + "|(");
        fault(Edge.DEEP, open + "p |(");
        fault(Edge.DEEP, "(assert " + "(not ".repeat(58) + "(let |(");
        fault(Edge.DEEP, "(assert " + "(not ".repeat(58) + "(|(_ extract 1 0) v)");
        fault(Edge.DEEP, "(assert " + "(not ".repeat(57) + "(let (|(x");
        // Where a symbol or another bracket's word must stand, it is another one only if it is not too deep.
        fault(Edge.DEEP, "(assert " + "(not ".repeat(56) + "(let ((|(");
        fault(Edge.OTHER, "(assert " + "(not ".repeat(55) + "(let ((|(");
        fault(Edge.DEEP, "(assert " + "(not ".repeat(57) + "((|(");
        fault(Edge.OTHER, "(assert " + "(not ".repeat(56) + "((|(");
    }

    private static void takenBeforeTheRest() {
        fault(Edge.TAKEN, "(declare-const |p 5)");
        fault(Edge.TAKEN, "(define-fun |p 5)");
        fault(Edge.TAKEN, "(assert (let ((|and 5)) p))");
        fault(Edge.TAKEN, "(assert (let ((x p) (|x unknown)) p))");
    }

    /** Another word must stand there: an operator behind a bracket, one with numerals behind ( ( _. */
    private static void operatorsInTheirPlace() {
        for (String word : "p x true false _ Bool BitVec Array assert declare-const define-fun extract zero_extend sign_extend #b1 5".split(" ")) {
            fault(Edge.OTHER, "(assert (|" + word + " p))");
        }
        for (String word : "p x true _ let and store concat bvadd BitVec #b1 5".split(" ")) {
            fault(Edge.OTHER, "(assert ((_ |" + word + " 1) v))");
            if (!word.equals("_")) {
                fault(Edge.OTHER, "(assert ((|" + word + " 1) v))");
            }
        }
        for (String word : "p not let Bool true define 5 #b1 )".split(" ")) {
            fault(Edge.OTHER, "(|" + word + " p)");
        }
    }
}
