/** Boundary cases of promises 1 to 3, and of the text, its signs and its words. */
final class EdgeTextTest {
    private static final int BLANKS = 0x20202020;

    public static void main(String[] args) {
        newObject();
        feedCounts();
        feedOrder();
        feedToTheLimit();
        feedBeyondTheLimit();
        feedOnceUsedUp();
        trimBounds();
        trimMoreThanThereAre();
        trimTakesTheLast();
        trimOfNothing();
        everyByte();
        everyByteInARemark();
        remarkEndsWithItsLine();
        remarkEndsWithTheText();
        longestRows();
        numerals();
        binaryWords();
        hexWords();
        symbols();
        Bench.finish();
    }

    /** Promise 1: no text, nothing declared or asserted. */
    private static void newObject() {
        VectorSolver solver = new VectorSolver();
        Bench.due("a new object", Bench.state(solver), "0 0 0 0 0 0 0 fault 0 -1 missed 0 refused 0");
        Bench.dueCall("thing(0, 0)", () -> solver.thing(0, 0), "argument");
        Bench.dueCall("value(0, 0)", () -> solver.value(0, 0), "argument");
        Bench.dueCall("named(0)", () -> solver.named(0), "argument");
        Bench.dueCall("suppose(0)", () -> solver.suppose(0), "argument");
        Bench.dueCall("read()", solver::read, 0);
        Bench.due("behind a text of nothing", Bench.state(solver), "0 0 0 0 0 0 0 fault 0 -1 missed 0 refused 0");
    }

    private static int blanks(VectorSolver solver) {
        return solver.feed(BLANKS, BLANKS, BLANKS, BLANKS, BLANKS);
    }

    private static void feedCounts() {
        VectorSolver solver = new VectorSolver();
        Bench.due("the first feed", blanks(solver), 20);
        Bench.due("the second feed", blanks(solver), 40);
        Bench.due("count(3)", solver.count(3), 40);
        solver.trim(7);
        Bench.due("feed behind trim(7)", blanks(solver), 53);
    }

    /** Each byte of each of the five has its own place, highest first, a sign bit or not. */
    private static void feedOrder() {
        for (int byteAt = 0; byteAt < 20; byteAt++) {
            for (int bad : new int[] {0x00, 0x7F, 0x80, 0xFF}) {
                int[] five = {BLANKS, BLANKS, BLANKS, BLANKS, BLANKS};
                int shift = 24 - 8 * (byteAt % 4);
                five[byteAt / 4] = BLANKS & ~(0xFF << shift) | bad << shift;
                VectorSolver solver = new VectorSolver();
                solver.feed(five[0], five[1], five[2], five[3], five[4]);
                Bench.due("read() of byte " + bad + " at " + byteAt, solver.read(), -1);
                Bench.due("its place", solver.fault(0) + " at " + solver.fault(1), "1 at " + byteAt);
            }
        }
    }

    /** 65536 bytes; 512 calls can't feed so many, but the document tells the limit. */
    private static VectorSolver fedTo(int bytes) {
        VectorSolver solver = new VectorSolver();
        for (int i = 0; i < 3276; i++) {
            blanks(solver);
        }
        solver.trim(65520 - bytes);
        Bench.due("count(3)", solver.count(3), bytes);
        return solver;
    }

    private static void feedToTheLimit() {
        VectorSolver solver = fedTo(65516);
        Bench.dueCall("feed to 65536", () -> solver.feed(BLANKS, BLANKS, BLANKS, BLANKS, 0x28292828), 65536);
        Bench.dueCall("feed of a full text", () -> blanks(solver), "state");
        Bench.due("count(3) of a full text", solver.count(3), 65536);
        Bench.due("read() of a full text", solver.read(), -1);
        Bench.due("its fault", solver.fault(0) + " at " + solver.fault(1), "4 at 65533");
        VectorSolver end = fedTo(65516);
        end.feed(BLANKS, BLANKS, BLANKS, BLANKS, 0x20202028);
        Bench.due("read() of a full text that ends in a bracket", end.read(), -1);
        Bench.due("its fault", end.fault(0) + " at " + end.fault(1), "3 at 65536");
    }

    private static void feedBeyondTheLimit() {
        VectorSolver solver = fedTo(65517);
        Bench.dueCall("feed to 65537", () -> solver.feed(0, 0, 0, 0, 0), "state");
        Bench.due("count(3) behind it", solver.count(3), 65517);
        Bench.dueCall("trim(1)", () -> solver.trim(1), 65516);
        Bench.dueCall("feed to 65536", () -> blanks(solver), 65536);
        Bench.due("read(), as none of the bytes that were too many came", solver.read(), 0);
        VectorSolver more = fedTo(65520);
        Bench.dueCall("feed to 65540", () -> more.feed(0, 0, 0, 0, 0), "state");
        Bench.due("count(3) behind it", more.count(3), 65520);
    }

    /** A text that was read is used up, with a fault or without, and there is room again. */
    private static void feedOnceUsedUp() {
        for (int last : new int[] {BLANKS, 0}) {
            VectorSolver solver = fedTo(65516);
            solver.feed(BLANKS, BLANKS, BLANKS, BLANKS, last);
            Bench.due("read()", solver.read(), last == 0 ? -1 : 0);
            Bench.due("count(3)", solver.count(3), 0);
            Bench.due("feed", blanks(solver), 20);
            Bench.due("read() of blanks", solver.read(), 0);
        }
    }

    /** 0 .. 20. */
    private static void trimBounds() {
        for (int n : new int[] {-1, 21, Integer.MIN_VALUE, Integer.MAX_VALUE}) {
            VectorSolver solver = new VectorSolver();
            blanks(solver);
            blanks(solver);
            Bench.dueCall("trim(" + n + ") of 40", () -> solver.trim(n), "argument");
            Bench.due("count(3) behind it", solver.count(3), 40);
        }
        for (int n = 0; n <= 20; n++) {
            VectorSolver solver = new VectorSolver();
            blanks(solver);
            blanks(solver);
            Bench.due("trim(" + n + ") of 40", solver.trim(n), 40 - n);
            Bench.due("count(3) behind it", solver.count(3), 40 - n);
        }
    }

    private static void trimMoreThanThereAre() {
        for (int left = 0; left < 20; left++) {
            VectorSolver solver = new VectorSolver();
            blanks(solver);
            solver.trim(20 - left);
            int more = left + 1;
            Bench.dueCall("trim(" + more + ") of " + left, () -> solver.trim(more), "argument");
            Bench.dueCall("trim(20) of " + left, () -> solver.trim(20), "argument");
            Bench.due("count(3) behind it", solver.count(3), left);
            int all = left;
            Bench.dueCall("trim(" + left + ") of as many", () -> solver.trim(all), 0);
        }
    }

    private static void trimTakesTheLast() {
        VectorSolver solver = new VectorSolver();
        Bench.feed(solver, "(assert true)(assert true):");
        Bench.dueCall("trim(1)", () -> solver.trim(1), 26);
        Bench.due("read()", solver.read(), 2);
        Bench.feed(solver, "(assert true)(assert true):");
        Bench.dueCall("trim(14)", () -> solver.trim(14), 13);
        Bench.feed(solver, ")");
        Bench.due("read()", solver.read(), -1);
        Bench.due("its fault", solver.fault(0) + " at " + solver.fault(1), "4 at 13");
    }

    private static void trimOfNothing() {
        VectorSolver solver = new VectorSolver();
        Bench.dueCall("trim(0) of nothing", () -> solver.trim(0), 0);
        Bench.dueCall("trim(1) of nothing", () -> solver.trim(1), "argument");
        blanks(solver);
        solver.read();
        Bench.dueCall("trim(1) of what is used up", () -> solver.trim(1), "argument");
        Bench.dueCall("trim(0) of what is used up", () -> solver.trim(0), 0);
    }

    private static boolean isWordSign(int sign) {
        boolean letter = sign >= 'a' && sign <= 'z' || sign >= 'A' && sign <= 'Z' || sign >= '0' && sign <= '9';
        return letter || sign != 0 && "~!@$%^&*_-+=<>.?/#".indexOf(sign) >= 0;
    }

    /** Each of the 256 bytes is a blank, begins a remark, is a bracket, a word sign or none of these. */
    private static void everyByte() {
        for (int sign = 0; sign < 256; sign++) {
            String before = "(declare-const a";
            String behind = (char) sign + "b Bool)";
            if (isWordSign(sign)) {
                Edge.good(1, before + behind);
            } else if (sign == 9 || sign == 10 || sign == 13 || sign == 32) {
                Edge.fault(Edge.OTHER, before + (char) sign + "|b Bool)");
                Edge.good(0, String.valueOf((char) sign));
            } else if (sign == ';') {
                Edge.fault(Edge.END, before + behind + "|");
            } else if (sign == '(') {
                Edge.fault(Edge.OTHER, before + "(|b Bool)");
            } else if (sign == ')') {
                Edge.fault(Edge.OTHER, before + "|)b Bool)");
            } else {
                Edge.fault(Edge.SIGN, before + "|" + behind);
                Edge.fault(Edge.SIGN, "|" + (char) sign);
                Edge.fault(Edge.SIGN, "(assert true)|" + (char) sign);
            }
        }
    }

    private static void everyByteInARemark() {
        for (int sign = 0; sign < 256; sign++) {
            if (sign != 10) {
                Edge.good(1, "(assert;" + (char) sign + ")x\ntrue)");
            }
        }
    }

    /** With byte 10, not with byte 13. */
    private static void remarkEndsWithItsLine() {
        Edge.good(1, ";\n(assert true)");
        Edge.good(0, ";\r(assert true)");
        Edge.fault(Edge.SIGN, ";\r\n;\n|:");
        Edge.good(2, "(assert true);;(assert true)\n(assert;true\ntrue);");
    }

    private static void remarkEndsWithTheText() {
        Edge.good(0, ";");
        Edge.good(1, "(assert true);");
        Edge.fault(Edge.END, "(assert true;)|");
        Edge.fault(Edge.END, "(;|");
    }

    /** A word ends before a blank, a bracket, a remark or a bad sign, and nowhere else. */
    private static void longestRows() {
        Edge.good(1, "(assert(and true(not false)true))");
        Edge.good(1, "(assert true;\n)");
        Edge.fault(Edge.FORM, "(assert (= |#b1#b1))");
        Edge.fault(Edge.NAME, "(assert |true#b1)");
        Edge.fault(Edge.NAME, "(assert |truefalse)");
        Edge.fault(Edge.SIGN, "(assert true|:)");
        Edge.fault(Edge.OTHER, "(|assert-true)");
    }

    /** 0, or digits of which the first is not 0. */
    private static void numerals() {
        Edge.good(1, "(assert (= ((_ extract 0 0) #b1) #b1))");
        Edge.good(1, "(declare-const x (_ BitVec 10))");
        Edge.good(1, "(declare-const x (_ BitVec 1))");
        for (String bad : new String[] {"00", "01", "010", "0a", "1a", "9_", "1.", "0x1", "1#"}) {
            Edge.fault(Edge.FORM, "(declare-const x (_ BitVec |" + bad + "))");
            Edge.fault(Edge.FORM, "(assert ((_ extract |" + bad);
        }
    }

    /** One digit at least, 64 at most. */
    private static void binaryWords() {
        Edge.good(1, "(define-fun x () (_ BitVec 1) #b0)");
        Edge.good(1, "(define-fun x () (_ BitVec 64) #b" + "1".repeat(64) + ")");
        for (String bad : new String[] {"#b", "#b2", "#b12", "#b0a", "#b1b", "#b/", "#b-", "#B1", "#b" + "1".repeat(65), "#b" + "0".repeat(65)}) {
            Edge.fault(Edge.FORM, "(define-fun x () (_ BitVec 1) |" + bad + ")");
        }
    }

    /** One digit at least, 16 at most; 0 .. 9, a .. f, A .. F and the signs beside them. */
    private static void hexWords() {
        Edge.good(1, "(define-fun x () (_ BitVec 4) #x0)");
        Edge.good(1, "(define-fun x () (_ BitVec 64) #x0123456789abcdef)");
        Edge.good(1, "(define-fun x () (_ BitVec 64) #xFEDCBA9876543210)");
        for (String digit : "0 9 a f A F".split(" ")) {
            Edge.good(1, "(define-fun x () (_ BitVec 4) #x" + digit + ")");
        }
        for (String bad : new String[] {"#x", "#x/", "#xg", "#xG", "#x@", "#x0_", "#X1", "#x" + "1".repeat(17), "#x" + "0".repeat(17), "#", "##", "#c", "#1"}) {
            Edge.fault(Edge.FORM, "(define-fun x () (_ BitVec 4) |" + bad + ")");
        }
    }

    /** A symbol begins with any word sign but a digit or #. */
    private static void symbols() {
        for (int sign = 33; sign < 127; sign++) {
            if (isWordSign(sign)) {
                String word = (char) sign + "k";
                if (sign == '#' || sign >= '0' && sign <= '9') {
                    Edge.fault(Edge.FORM, "(declare-const |" + word + " Bool)");
                } else {
                    Edge.good(2, "(declare-const " + word + " Bool)(assert " + word + ")");
                }
            }
        }
    }
}
