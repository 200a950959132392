/** What the tests share: a solver that is fed with whole texts, and answers that are looked at. */
final class Bench {
    private static int wrong = 0;

    /** What a call answered: a number (a boolean is 1 or 0), or the name of what it threw. */
    interface Call {
        Object run();
    }

    private Bench() {
    }

    static void due(String what, Object got, Object want) {
        if (!want.equals(got)) {
            wrong++;
            System.out.println(what + " answered " + got + ", due is " + want);
        }
    }

    static Object answer(Call call) {
        try {
            return call.run();
        } catch (IllegalArgumentException e) {
            return e.getClass() == IllegalArgumentException.class ? "argument" : e.toString();
        } catch (IllegalStateException e) {
            return e.getClass() == IllegalStateException.class ? "state" : e.toString();
        } catch (RuntimeException e) {
            return e.toString();
        }
    }

    static void dueCall(String what, Call call, Object want) {
        due(what, answer(call), want);
    }

    /** Twenty bytes at a time, the last ones filled with blanks that go again. */
    static void feed(VectorSolver solver, String text) {
        int[] five = new int[5];
        for (int from = 0; from < text.length(); from += 20) {
            for (int word = 0; word < 5; word++) {
                five[word] = 0;
                for (int i = 0; i < 4; i++) {
                    int at = from + 4 * word + i;
                    five[word] = five[word] << 8 | (at < text.length() ? text.charAt(at) & 255 : 32);
                }
            }
            solver.feed(five[0], five[1], five[2], five[3], five[4]);
        }
        solver.trim((20 - text.length() % 20) % 20);
    }

    static int read(VectorSolver solver, String text) {
        feed(solver, text);
        return solver.read();
    }

    /** A solver that has read a text without a fault. */
    static VectorSolver after(String text) {
        VectorSolver solver = new VectorSolver();
        read(solver, text);
        due("the fault of " + text, solver.fault(0) + " at " + solver.fault(1), "0 at -1");
        return solver;
    }

    /** All that can be asked without a search. */
    static String state(VectorSolver solver) {
        StringBuilder all = new StringBuilder();
        for (int what = 0; what < 7; what++) {
            all.append(solver.count(what)).append(' ');
        }
        all.append("fault ").append(solver.fault(0)).append(' ').append(solver.fault(1));
        all.append(" missed ").append(solver.missed()).append(" refused ").append(solver.refused());
        for (int thing = 0; thing < solver.count(4); thing++) {
            all.append(" [");
            for (int what = 0; what < 4; what++) {
                all.append(solver.thing(thing, what)).append(' ');
            }
            int cells = 1 << solver.thing(thing, 2);
            for (int cell = 0; cell < cells; cell++) {
                int itsThing = thing;
                int itsCell = cell;
                all.append(answer(() -> solver.value(itsThing, itsCell))).append(' ');
            }
            all.append(']');
        }
        for (int name = 0; name < solver.count(1); name++) {
            int itsName = name;
            all.append(' ').append(answer(() -> solver.named(itsName)));
        }
        return all.toString();
    }

    static void finish() {
        System.out.println(wrong == 0 ? "all answers are as due" : wrong + " answers are not as due");
        if (wrong != 0) {
            System.exit(1);
        }
    }
}
