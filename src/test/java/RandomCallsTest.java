import java.util.ArrayList;
import java.util.Arrays;
import java.util.List;
import java.util.Random;

/**
 * All promises on random runs of calls, right and wrong ones in any order, of at most 512 calls each: every answer
 * is held against the Model.
 */
final class RandomCallsTest {
    private static final int MOST_CALLS = 512;
    private static final String[] BROKEN = {"(", ")", "", "", "let", "true", "#b", "01", "99999999999", "Bool", "(_ BitVec 0)", "assert",
        "\"", "\u00e4", ";", "a", "extract", "bvadd", "((_ zero_extend 64)"};
    private static final String[] FOLDED_BOOLS = "and or xor =>".split(" ");
    private static final String[] FOLDED = "bvand bvor bvxor bvadd bvmul".split(" ");
    private static final String[] PAIRED = "bvsub bvudiv bvurem bvsdiv bvsrem bvshl bvlshr bvashr".split(" ");
    private static final String[] COMPARED = "bvult bvule bvugt bvuge bvslt bvsle bvsgt bvsge".split(" ");

    /** What happened in all runs, to see that nothing is left out. */
    private static final String[] EVENTS = {"found", "not found", "search refused", "value", "value refused", "named", "named refused",
        "good text", "bad text", "wrong argument"};
    private static final int[] events = new int[EVENTS.length];

    private final Random random;
    private final String run;
    private final VectorSolver solver = new VectorSolver();
    private final Model model = new Model();
    private final int mostSize;
    private final int mostAssertions;
    /** Much is declared and little asserted, so that the effort is used up. */
    private final boolean easy;
    /** So much is declared in the end that nothing can be searched any more. */
    private final boolean wide;
    private int calls = 0;
    private int symbols = 0;
    /** The names of the text that is being made, and behind them what lets bind. */
    private final List<String> known = new ArrayList<>();
    private final List<Model.Sort> knownSorts = new ArrayList<>();

    private RandomCallsTest(int seed) {
        random = new Random(seed);
        run = "run " + seed + ", call ";
        easy = seed % 5 == 4;
        wide = seed % 5 == 3;
        mostSize = easy ? 16 : 3 + random.nextInt(6);
        mostAssertions = easy ? 1 : random.nextInt(7);
    }

    public static void main(String[] args) {
        int many = args.length > 0 ? Integer.parseInt(args[0]) : 100;
        int from = args.length > 1 ? Integer.parseInt(args[1]) : 0;
        for (int seed = from; seed < from + many; seed++) {
            new RandomCallsTest(seed).go();
        }
        StringBuilder all = new StringBuilder();
        for (int i = 0; i < EVENTS.length; i++) {
            all.append(EVENTS[i]).append(' ').append(events[i]).append(i + 1 < EVENTS.length ? ", " : "");
            Bench.due("that there is enough of '" + EVENTS[i] + "'", events[i] >= many, true);
        }
        System.out.println(all);
        Bench.finish();
    }

    private void go() {
        while (calls < MOST_CALLS) {
            if (chance(12)) {
                text();
            } else {
                anyCall();
            }
        }
    }

    private boolean chance(int oneIn) {
        return random.nextInt(oneIn) == 0;
    }

    private String pick(String... from) {
        return from[random.nextInt(from.length)];
    }

    private int number(Object counted) {
        return counted instanceof Integer n ? n : 0;
    }

    private Object due(String call, Bench.Call got, Object want) {
        if (calls < MOST_CALLS) {
            calls++;
            Bench.dueCall(run + calls + ": " + call, got, want);
        }
        if (want.equals(Model.ARGUMENT)) {
            events[9]++;
        }
        return want;
    }

    private void tell(Object answer, int good, int refused) {
        if (answer.equals(Model.STATE)) {
            events[refused]++;
        } else if (!answer.equals(Model.ARGUMENT)) {
            events[good]++;
        }
    }

    private void anyCall() {
        int names = number(model.count(1));
        int things = number(model.count(4));
        int name = random.nextInt(names + 2) - 1;
        int thing = chance(8) ? pickOut() : things == 0 ? 0 : random.nextInt(things);
        int cell = chance(8) ? pickOut() : random.nextInt(1 << Math.min(6, 1 + number(model.thing(thing, 2)))) / 2;
        int what = chance(40) ? pickOut() : random.nextInt(7);
        switch (random.nextInt(12)) {
            case 0: search(due("check()", solver::check, model.check())); break;
            case 1: case 2: search(due("more()", solver::more, model.more())); break;
            case 3: search(due("suppose(" + name + ")", () -> solver.suppose(name), model.suppose(name))); break;
            case 4: case 5:
                tell(due("value(" + thing + ", " + cell + ")", () -> solver.value(thing, cell), model.value(thing, cell)), 3, 4);
                break;
            case 6: case 7: tell(due("named(" + name + ")", () -> solver.named(name), model.named(name)), 5, 6); break;
            case 8: {
                int asked = what - 1;
                due("thing(" + thing + ", " + asked + ")", () -> solver.thing(thing, asked), model.thing(thing, asked));
                break;
            }
            case 9: due("count(" + what + ")", () -> solver.count(what), model.count(what)); break;
            case 10: due("fault(" + what % 3 + ")", () -> solver.fault(what % 3), model.fault(what % 3)); break;
            default:
                due("missed()", solver::missed, model.missed());
                due("refused()", solver::refused, model.refused());
        }
    }

    private int pickOut() {
        int[] out = {-1, Integer.MIN_VALUE, Integer.MAX_VALUE, 7, 64, 65536, -65536, 500, 2000};
        return out[random.nextInt(out.length)];
    }

    private void search(Object answer) {
        if (answer instanceof Boolean yes) {
            events[yes ? 0 : 1]++;
        } else {
            tell(answer, 0, 2);
        }
    }

    // ---- texts

    private void text() {
        StringBuilder text = new StringBuilder();
        known.clear();
        knownSorts.clear();
        for (Model.Name name : model.names()) {
            know(name.symbol(), name.term().sort());
        }
        int size = number(model.count(5));
        int commands = random.nextInt(easy ? 6 : 4);
        for (int i = 0; i < commands; i++) {
            size += command(text, size);
        }
        if (chance(5) && text.length() > 0) {
            int at = random.nextInt(text.length());
            text.replace(at, Math.min(text.length(), at + random.nextInt(5)), pick(BROKEN));
        }
        feed(text);
        if (calls < MOST_CALLS) {
            due("read() of " + text, solver::read, model.read());
            events[model.fault(0).equals(0) ? 7 : 8]++;
            due("fault(0)", () -> solver.fault(0), model.fault(0));
            due("fault(1)", () -> solver.fault(1), model.fault(1));
        }
    }

    /** Other calls may come between, and bytes too many go again. */
    private void feed(CharSequence text) {
        int at = 0;
        while (at < text.length() && calls < MOST_CALLS) {
            int[] five = new int[5];
            int many = Math.min(20, text.length() - at);
            for (int i = 0; i < 20; i++) {
                five[i / 4] = five[i / 4] << 8 | (i < many ? text.charAt(at + i) & 255 : random.nextInt(256));
            }
            due("feed()", () -> solver.feed(five[0], five[1], five[2], five[3], five[4]), model.feed(five));
            at += many;
            trim(20 - many);
            if (chance(12)) {
                int back = random.nextInt(Math.min(at, 20) + 1);
                trim(back);
                at -= back;
            }
            if (chance(6)) {
                anyCall();
            }
        }
    }

    private void trim(int n) {
        if (calls >= MOST_CALLS) {
            return;
        }
        int wrong = chance(2) ? -1 - random.nextInt(3) : 21 + random.nextInt(3);
        if (chance(10)) {
            due("trim(" + wrong + ")", () -> solver.trim(wrong), model.trim(wrong));
        }
        if (n > 0 && calls < MOST_CALLS) {
            due("trim(" + n + ")", () -> solver.trim(n), model.trim(n));
        }
    }

    private void know(String symbol, Model.Sort sort) {
        known.add(symbol);
        knownSorts.add(sort);
    }

    private void forget(int many) {
        while (known.size() > many) {
            known.remove(known.size() - 1);
            knownSorts.remove(knownSorts.size() - 1);
        }
    }

    private static String shown(Model.Sort sort) {
        String vector = "(_ BitVec " + sort.width() + ")";
        return sort.isArray() ? "(Array (_ BitVec " + sort.index() + ")" + vector + ")" : sort.isVector() ? vector : "Bool";
    }

    private Model.Sort sort() {
        switch (random.nextInt(7)) {
            case 0: case 1: return Model.Sort.BOOL;
            case 2: return new Model.Sort(1 + random.nextInt(2), 1 + random.nextInt(2));
            default: return new Model.Sort(0, 1 + random.nextInt(4));
        }
    }

    /** How much it adds to the size. */
    private int command(StringBuilder text, int size) {
        String symbol = chance(20) && !known.isEmpty() ? known.get(0) : "s" + symbols;
        symbols++;
        Model.Sort sort = wide && chance(4) ? new Model.Sort(random.nextInt(4), 10 + random.nextInt(55)) : sort();
        int kind = random.nextInt(easy ? 12 : 4);
        boolean fits = size + sort.size() <= mostSize || size > 16 || wide && calls > MOST_CALLS / 2;
        if ((kind < 2 || easy && size < 14) && fits) {
            text.append("(declare-const ").append(symbol).append(' ').append(shown(sort)).append(")");
            know(symbol, sort);
            return sort.size();
        }
        if (kind == 3 && number(model.count(2)) < mostAssertions) {
            text.append("(assert ");
            term(text, Model.Sort.BOOL, easy ? 1 : 2);
            text.append(")\n");
            return 0;
        }
        Model.Sort own = sort.isArray() && !knownSorts.contains(sort) ? Model.Sort.BOOL : sort;
        text.append("(define-fun ").append(symbol).append(" ()").append(shown(own)).append(' ');
        term(text, own, easy ? 4 : 2);
        text.append("); ).\n");
        know(symbol, own);
        return 0;
    }

    private void term(StringBuilder text, Model.Sort sort, int depth) {
        List<String> fitting = new ArrayList<>();
        for (int i = 0; i < known.size(); i++) {
            boolean last = known.lastIndexOf(known.get(i)) == i;
            if (last && knownSorts.get(i).equals(sort)) {
                fitting.add(known.get(i));
            }
        }
        if (depth > 0 && !chance(6)) {
            text.append('(');
            compound(text, sort, depth - 1);
            text.append(')');
        } else if (!fitting.isEmpty() && !chance(5)) {
            text.append(fitting.get(random.nextInt(fitting.size())));
        } else if (sort.isArray()) {
            text.append(fitting.isEmpty() ? "nothing" : fitting.get(0));
        } else {
            constant(text, sort);
        }
    }

    private void constant(StringBuilder text, Model.Sort sort) {
        if (sort.width() == 0) {
            text.append(pick("true", "false"));
        } else if (sort.width() % 4 == 0 && chance(2)) {
            text.append("#x");
            for (int i = 0; i < sort.width() / 4; i++) {
                text.append("0123456789abcdefABCDEF".charAt(random.nextInt(22)));
            }
        } else {
            text.append("#b");
            for (int i = 0; i < sort.width(); i++) {
                text.append(pick("0", "1"));
            }
        }
    }

    private void compound(StringBuilder text, Model.Sort sort, int depth) {
        if (chance(8)) {
            let(text, sort, depth);
        } else if (chance(8)) {
            apply(text, "ite", depth, Model.Sort.BOOL, sort, sort);
        } else if (sort.isArray()) {
            apply(text, "store", depth, sort, new Model.Sort(0, sort.index()), new Model.Sort(0, sort.width()));
        } else if (sort.isVector()) {
            vector(text, sort, depth);
        } else {
            bool(text, depth);
        }
    }

    private void let(StringBuilder text, Model.Sort sort, int depth) {
        int before = known.size();
        List<String> bound = new ArrayList<>();
        List<Model.Sort> sorts = new ArrayList<>();
        text.append("let (");
        int many = chance(30) ? 17 : 1 + random.nextInt(3);
        for (int i = 0; i < many; i++) {
            String symbol = chance(3) && before > 0 ? known.get(random.nextInt(before)) : "l" + random.nextInt(many > 3 ? 40 : 4);
            Model.Sort own = random.nextBoolean() || sort().isArray() ? Model.Sort.BOOL : new Model.Sort(0, 1 + random.nextInt(4));
            if (!bound.contains(symbol) || chance(60)) {
                text.append('(').append(symbol).append(' ');
                term(text, own, Math.min(1, depth));
                text.append(')');
                bound.add(symbol);
                sorts.add(own);
            }
        }
        for (int i = 0; i < bound.size(); i++) {
            know(bound.get(i), sorts.get(i));
        }
        text.append(") ");
        term(text, sort, depth);
        forget(before);
    }

    private void apply(StringBuilder text, String op, int depth, Model.Sort... sorts) {
        text.append(op);
        for (Model.Sort sort : sorts) {
            text.append(' ');
            term(text, sort, depth);
        }
    }

    private Model.Sort[] several(Model.Sort sort) {
        Model.Sort[] all = new Model.Sort[chance(60) ? 1 : 2 + (chance(3) ? random.nextInt(3) : 0)];
        Arrays.fill(all, sort);
        return all;
    }

    private void bool(StringBuilder text, int depth) {
        Model.Sort any = chance(4) && !knownSorts.isEmpty() ? knownSorts.get(random.nextInt(knownSorts.size())) : sort();
        Model.Sort vector = new Model.Sort(0, chance(10) ? 64 : 1 + random.nextInt(5));
        switch (random.nextInt(5)) {
            case 0: apply(text, "not", depth, Model.Sort.BOOL); break;
            case 1: apply(text, pick(FOLDED_BOOLS), depth, several(Model.Sort.BOOL)); break;
            case 2: apply(text, pick("=", "distinct"), depth, several(any.isArray() && !knownSorts.contains(any) ? vector : any)); break;
            default: apply(text, pick(COMPARED), depth, vector, vector);
        }
    }

    private void vector(StringBuilder text, Model.Sort sort, int depth) {
        int width = sort.width();
        int part = width == 1 ? 0 : random.nextInt(width);
        switch (random.nextInt(8)) {
            case 0: apply(text, pick("bvnot", "bvneg"), depth, sort); break;
            case 1: case 2: apply(text, pick(FOLDED), depth, several(sort)); break;
            case 3: case 4: apply(text, pick(PAIRED), depth, sort, sort); break;
            case 5: apply(text, "(_ " + pick("zero", "sign") + "_extend " + part + ")", depth, new Model.Sort(0, width - part)); break;
            case 6:
                if (part > 0) {
                    apply(text, "concat", depth, new Model.Sort(0, part), new Model.Sort(0, width - part));
                    break;
                }
                apply(text, "(_ extract " + (width + 1) + " 2)", depth, new Model.Sort(0, Math.min(64, width + 2 + random.nextInt(60))));
                break;
            default: {
                Model.Sort array = chance(2) ? new Model.Sort(1, width) : new Model.Sort(2, width);
                if (knownSorts.contains(array)) {
                    apply(text, "select", depth, array, new Model.Sort(0, array.index()));
                } else {
                    apply(text, "(_ extract " + (width - 1) + " 0)", depth, new Model.Sort(0, width));
                }
            }
        }
    }
}
