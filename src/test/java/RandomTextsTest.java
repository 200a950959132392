import java.util.Random;

/**
 * Promises 4, 5, 13 and 14 on random texts, right ones and such as are broken anywhere: what is read is held
 * against the Reference, and a fault leaves all as it was.
 */
final class RandomTextsTest {
    private static final String[] PIECES = {"(", ")", "((_ ", "let", "((x ", "true", "#b1", "#x", "00", "7", "65", "0", "99999999999",
        "Bool", "(_ BitVec 4)", "(Array (_ BitVec 1) (_ BitVec 2))", "extract 3 1)", "bvadd", "store", "select", "assert", "n0", "n1",
        ":", "\u00e4", ";", "\n", " ", "declare-const", "define-fun z () ", "=>", "ite", "zero_extend 70)"};
    private static final String[] BOOLS = "and or xor => = distinct".split(" ");
    private static final String[] VECTORS = "bvand bvor bvxor bvadd bvmul".split(" ");
    private static final String[] PAIRED = "bvsub bvudiv bvurem bvsdiv bvsrem bvshl bvlshr bvashr".split(" ");
    private static final String[] COMPARED = "= distinct bvult bvule bvugt bvuge bvslt bvsle bvsgt bvsge".split(" ");
    private static final String[] WORDS = {"a", "b", "c", "d", "e", "x", "y", "true", "false", "let", "_", "Bool", "#b1", "#b0101",
        "#xA", "#x0123456789abcdef", "0", "7", "00", "#b", "assert", ":", "e#b", "()"};
    private static final String[] NUMERALS = {"0", "1", "2", "3", "4", "5", "6", "7", "8", "60", "62", "63", "64", "65", "2147483647",
        "2147483648", "#b1", "x", "01", ")"};

    private static final String KNOWN = "(declare-const a Bool)(declare-const b Bool)(declare-const c (_ BitVec 4))"
        + "(declare-const d (_ BitVec 4))(declare-const e (Array (_ BitVec 2) (_ BitVec 4)))(declare-const x (_ BitVec 64))"
        + "(declare-const y (_ BitVec 2))";

    private final Random random;

    private RandomTextsTest(long seed) {
        random = new Random(seed);
    }

    public static void main(String[] args) {
        int many = args.length > 0 ? Integer.parseInt(args[0]) : 4000;
        int[] kinds = new int[13];
        for (int seed = 0; seed < many; seed++) {
            broken(seed, kinds);
            wild(seed, kinds);
        }
        for (int kind = 0; kind <= 12; kind++) {
            System.out.print(kinds[kind] + (kind < 12 ? " " : " texts with the faults 0 .. 12\n"));
            Bench.due("that there is a text with the fault " + kind, kinds[kind] > 0, true);
        }
        Bench.finish();
    }

    /** A right text, with some changes. */
    private static void broken(int seed, int[] kinds) {
        Random random = new Random(seed);
        VectorSolver solver = new VectorSolver();
        Reference reference = new Reference();
        String first = new Problem(seed, 6).grow(6, 2);
        Bench.due(first, Reference.shown(Bench.read(solver, first), solver), reference.read(first));
        Bench.answer(solver::check);
        solver.read();
        String before = Bench.state(solver);
        StringBuilder text = new StringBuilder(new Problem(seed, 6).grow(2 + seed % 5, 2).replaceAll("\\bn(?=\\d)", "m"));
        for (int change = 0; change <= seed % 3; change++) {
            breakIt(text, random);
        }
        Bench.due(text.toString(), Reference.shown(Bench.read(solver, text.toString()), solver), reference.read(text.toString()));
        kinds[reference.faultKind()]++;
        if (reference.faultKind() != 0) {
            solver.read();
            Bench.due("the state behind " + text, Bench.state(solver), before);
        }
    }

    private static void breakIt(StringBuilder text, Random random) {
        int at = random.nextInt(text.length() + 1);
        String piece = PIECES[random.nextInt(PIECES.length)];
        switch (random.nextInt(4)) {
            case 0:
                text.insert(at, piece);
                break;
            case 1:
                text.replace(at, Math.min(text.length(), at + 1 + random.nextInt(6)), piece);
                break;
            case 2:
                text.delete(at, Math.min(text.length(), at + 1 + random.nextInt(4)));
                break;
            default:
                text.setLength(at);
        }
    }

    /** Texts that are made by the rules, with little regard to sorts and numbers. */
    private static void wild(int seed, int[] kinds) {
        RandomTextsTest maker = new RandomTextsTest(seed);
        VectorSolver solver = new VectorSolver();
        Reference reference = new Reference();
        String known = prepared(seed);
        Bench.due(known, Reference.shown(Bench.read(solver, known), solver), reference.read(known));
        for (int i = 0; i < 6; i++) {
            StringBuilder text = new StringBuilder();
            int commands = maker.random.nextInt(5);
            for (int k = 0; k < commands; k++) {
                maker.command(text);
            }
            Bench.due(text.toString(), Reference.shown(Bench.read(solver, text.toString()), solver), reference.read(text.toString()));
            kinds[reference.faultKind()]++;
        }
    }

    /** At times near the most terms, the most assertions or the most weight. */
    private static String prepared(int seed) {
        switch (seed % 16) {
            case 0:
                return KNOWN + ("(assert (=" + " #b1".repeat(39) + "))").repeat(49) + "(assert (and" + " true".repeat(26) + "))";
            case 1:
                return KNOWN + "(assert a)".repeat(497);
            case 2:
            case 3:
                return KNOWN + "(assert (= x (bvmul x x)" + " (bvadd x x x x x x x x x)".repeat(7) + "))";
            case 4:
                return "";
            default:
                return KNOWN;
        }
    }

    private String pick(String[] from) {
        return from[random.nextInt(from.length)];
    }

    private boolean seldom(int one) {
        return random.nextInt(one) == 0;
    }

    private void command(StringBuilder text) {
        String name = seldom(40) ? pick(WORDS) : String.valueOf(pick("fghijklmnopqrstuvwzFGHIJKLMNOPQRSTUVWXYZ"));
        switch (random.nextInt(3)) {
            case 0:
                text.append("(declare-const ").append(name).append(' ').append(sort()).append(")\n");
                break;
            case 1:
                char sort = pick("B42WA");
                text.append("(define-fun ").append(name).append(" () ").append(seldom(20) ? sort() : shown(sort)).append(' ');
                term(text, sort, 3);
                text.append(")\r\n");
                break;
            default:
                text.append("(assert ");
                if (seldom(20)) {
                    chain(text);
                } else {
                    term(text, 'B', 4);
                }
                text.append(")\t");
        }
    }

    private String sort() {
        switch (random.nextInt(5)) {
            case 0:
            case 1:
                return seldom(30) ? "bool" : "Bool";
            case 2:
            case 3:
                return "(_ BitVec " + numeral(4) + ")";
            default:
                return "(Array (_ BitVec " + numeral(2) + ") (_ BitVec " + numeral(seldom(3) ? 64 : 4) + "))";
        }
    }

    private static String shown(char sort) {
        return sort == 'B' ? "Bool" : sort == 'A' ? "(Array (_ BitVec 2) (_ BitVec 4))" : "(_ BitVec " + (sort == 'W' ? "64" : sort) + ")";
    }

    private String numeral(int usual) {
        return seldom(20) ? pick(NUMERALS) : String.valueOf(usual);
    }

    /** Near the greatest depth, or near the most bound symbols. */
    private void chain(StringBuilder text) {
        if (random.nextBoolean()) {
            int deep = 56 + random.nextInt(6);
            text.append("(not ".repeat(deep)).append("true").append(")".repeat(deep));
            return;
        }
        int many = 12 + random.nextInt(6);
        for (int i = 0; i < many; i++) {
            text.append("(let ((l").append(i).append(" true)").append(seldom(12) ? "(k true)" : "").append(") ");
        }
        text.append("l0").append(")".repeat(many));
    }

    /** Of a sort: B a Bool, 4, 2 and W (64 wide) vectors, A the array; seldom of another one. */
    private void term(StringBuilder text, char sort, int depth) {
        if (seldom(60)) {
            text.append(pick(WORDS));
        } else if (seldom(60)) {
            term(text, pick("B42WA"), depth);
        } else if (depth == 0 || seldom(6)) {
            text.append(pick(plain(sort)));
        } else if (seldom(6)) {
            let(text, sort, depth - 1);
        } else {
            applied(text, sort, depth - 1);
        }
    }

    private static String[] plain(char sort) {
        switch (sort) {
            case 'B': return new String[] {"a", "b", "true", "false"};
            case '4': return new String[] {"c", "d", "#b0101", "#xF"};
            case '2': return new String[] {"y", "#b10"};
            case 'W': return new String[] {"x", "#x0123456789abcdef"};
            default: return new String[] {"e"};
        }
    }

    private char pick(String from) {
        return from.charAt(random.nextInt(from.length()));
    }

    private void applied(StringBuilder text, char sort, int depth) {
        switch (sort == 'A' ? 7 : random.nextInt(sort == 'B' ? 3 : 7)) {
            case 0:
                apply(text, "ite", "B" + sort + sort, depth);
                break;
            case 1:
                apply(text, pick(sort == 'B' ? BOOLS : VECTORS), many(sort), depth);
                break;
            case 2:
                char compared = sort == 'B' ? pick("42W") : sort;
                apply(text, pick(sort == 'B' ? COMPARED : PAIRED), "" + compared + compared, depth);
                break;
            case 3:
                apply(text, sort == '4' ? "select" : "bvneg", sort == '4' ? "A2" : "" + sort, depth);
                break;
            case 4:
                apply(text, sort == '4' ? "concat" : "bvnot", sort == '4' ? "22" : "" + sort, depth);
                break;
            case 5:
                apply(text, "(_ extract " + numeral(sort == '4' ? 6 : 3) + " " + numeral(sort == '2' ? 2 : 3) + ")", "W", depth);
                break;
            case 6:
                apply(text, "(_ " + (random.nextBoolean() ? "zero" : "sign") + "_extend " + numeral(sort == 'W' ? 60 : 2) + ")",
                    sort == '4' ? "2" : "4", depth);
                break;
            default:
                apply(text, "store", "A24", depth);
        }
    }

    private String many(char sort) {
        int many = seldom(30) ? 39 + random.nextInt(3) : seldom(30) ? random.nextInt(2) : 2 + random.nextInt(2);
        return String.valueOf(sort).repeat(many);
    }

    private void apply(StringBuilder text, String op, String sorts, int depth) {
        text.append('(').append(seldom(80) ? pick(WORDS) : op);
        int left = seldom(80) ? 1 : 0;
        for (int i = left; i < sorts.length(); i++) {
            text.append(' ');
            term(text, sorts.charAt(i), sorts.length() > 4 ? 0 : depth);
        }
        text.append(seldom(80) ? " a" : "").append(')');
    }

    private void let(StringBuilder text, char sort, int depth) {
        text.append("(let (");
        int many = seldom(20) ? random.nextInt(19) : 1 + random.nextInt(3);
        for (int i = 0; i < many; i++) {
            text.append('(').append(seldom(20) ? pick(WORDS) : String.valueOf(pick("pqrstuvwz"))).append(' ');
            term(text, pick("B42WA"), depth);
            text.append(") ");
        }
        text.append(") ");
        term(text, sort, depth);
        text.append(')');
    }
}
