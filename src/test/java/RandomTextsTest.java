import java.util.Random;

/** Texts that are broken anywhere: nothing but the document's answers comes, and a fault leaves all as it was. */
final class RandomTextsTest {
    private static final String[] PIECES = {"(", ")", "((_ ", "let", "((x ", "true", "#b1", "#x", "00", "7", "65", "0", "99999999999",
        "Bool", "(_ BitVec 4)", "(Array (_ BitVec 1) (_ BitVec 2))", "extract 3 1)", "bvadd", "store", "select", "assert", "n0", "n1",
        ":", "\u00e4", ";", "\n", " ", "declare-const", "define-fun z () ", "=>", "ite", "zero_extend 70)"};

    public static void main(String[] args) {
        int[] kinds = new int[13];
        for (int seed = 0; seed < 4000; seed++) {
            run(seed, kinds);
        }
        for (int kind = 0; kind <= 9; kind++) {
            Bench.due("that there is a text with the fault " + kind, kinds[kind] > 0, true);
        }
        Bench.finish();
    }

    private static void run(int seed, int[] kinds) {
        Random random = new Random(seed);
        Problem problem = new Problem(seed, 6);
        VectorSolver solver = new VectorSolver();
        Bench.read(solver, problem.grow(6, 2));
        Bench.answer(solver::check);
        solver.read();
        String before = Bench.state(solver);
        StringBuilder text = new StringBuilder(new Problem(seed, 6).grow(2 + seed % 5, 2).replaceAll("\\bn(?=\\d)", "m"));
        for (int change = 0; change <= seed % 3; change++) {
            breakIt(text, random);
        }
        int got = Bench.read(solver, text.toString());
        int kind = solver.fault(0);
        int place = solver.fault(1);
        kinds[kind]++;
        Bench.due("that NONE and a fault come together for " + text, got == VectorSolver.NONE, kind != 0);
        Bench.due("that the place is within " + text, kind == 0 ? place == -1 : place >= 0 && place <= text.length(), true);
        if (kind != 0) {
            solver.read();
            Bench.due("the state behind " + text, Bench.state(solver), before);
        }
    }

    private static void breakIt(StringBuilder text, Random random) {
        int at = random.nextInt(text.length() + 1);
        String piece = PIECES[random.nextInt(PIECES.length)];
        switch (random.nextInt(4)) {
            case 0:
                text.insert(at, piece);
                break;
            case 1:
                text.replace(at, Math.min(text.length(), at + 1 + random.nextInt(6)), piece);
                break;
            case 2:
                text.delete(at, Math.min(text.length(), at + 1 + random.nextInt(4)));
                break;
            default:
                text.setLength(at);
        }
    }
}
