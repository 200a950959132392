/** What the tests of boundary cases share: the kinds of faults, texts that mark their own fault's place, and long texts. */
final class Edge {
    static final int SIGN = 1;
    static final int FORM = 2;
    static final int END = 3;
    static final int OTHER = 4;
    static final int NAME = 5;
    static final int TAKEN = 6;
    static final int NUMBER = 7;
    static final int MANY = 8;
    static final int SORTS = 9;
    static final int DEEP = 10;
    static final int FULL = 11;
    static final int HEAVY = 12;

    private Edge() {
    }

    /** The text has a fault where the stroke | stands, which is no part of it. */
    static void fault(VectorSolver solver, int kind, String marked) {
        int place = marked.indexOf('|');
        String text = marked.substring(0, place) + marked.substring(place + 1);
        int got = Bench.read(solver, text);
        Bench.due(shown(text), got + " fault " + solver.fault(0) + " at " + solver.fault(1), "-1 fault " + kind + " at " + place);
    }

    static void fault(int kind, String marked) {
        fault(new VectorSolver(), kind, marked);
    }

    /** The text has no fault, and as many commands. */
    static void good(VectorSolver solver, int commands, String text) {
        int got = Bench.read(solver, text);
        Bench.due(shown(text), got + " fault " + solver.fault(0) + " at " + solver.fault(1), commands + " fault 0 at -1");
    }

    static void good(int commands, String text) {
        good(new VectorSolver(), commands, text);
    }

    /** A solver that has read a text without a fault. */
    static VectorSolver of(String text) {
        return Bench.after(text);
    }

    private static String shown(String text) {
        return text.length() < 200 ? text : text.substring(0, 150) + " .. " + text.substring(text.length() - 40);
    }

    /** Assertions that are true and have so many terms, three at least: constants of weight 1 and a = for each 39 at most. */
    static String terms(int many) {
        StringBuilder text = new StringBuilder();
        int left = many;
        while (left > 0) {
            int here = left > 42 ? 40 : left > 40 ? 20 : left;
            text.append("(assert (=").append(" #b1".repeat(here - 1)).append("))");
            left -= here;
        }
        return text.toString();
    }

    /** Terms that weigh so much together, whose own names are made from a letter. */
    static String weight(char letter, int much) {
        StringBuilder text = new StringBuilder();
        int left = much;
        for (int i = 0; left > 0; i++) {
            int width = Math.min(64, left);
            int index = 0;
            while (index < 6 && width == 64 && width << index + 1 <= left) {
                index++;
            }
            text.append("(declare-const ").append(letter).append(i).append(' ');
            text.append(new Problem.Sort(index, width)).append(")");
            left -= width << index;
        }
        return text.toString();
    }

    /** As many answers as there are cells, one behind the other. */
    static String found(VectorSolver solver) {
        StringBuilder all = new StringBuilder();
        for (int thing = 0; thing < solver.count(4); thing++) {
            for (int cell = 0; cell < 1 << solver.thing(thing, 2); cell++) {
                int itsThing = thing;
                int itsCell = cell;
                all.append(all.length() == 0 ? "" : " ").append(Bench.answer(() -> solver.value(itsThing, itsCell)));
            }
        }
        return all.toString();
    }
}
