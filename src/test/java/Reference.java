import java.util.ArrayList;
import java.util.HashMap;
import java.util.List;
import java.util.Map;
import java.util.Set;

/**
 * A second reader of texts, by plain means: it looks at a byte when that is wanted, and tells what the solver
 * must answer of faults, counts and things. It takes the document's unclear sentences as the solver does.
 */
final class Reference {
    private static final Set<String> RESERVED = Set.of(("declare-const define-fun assert Bool _ BitVec Array true false let extract "
        + "zero_extend sign_extend not and or xor => ite = distinct bvnot bvneg bvand bvor bvxor bvadd bvmul bvsub bvudiv bvurem "
        + "bvsdiv bvsrem bvshl bvlshr bvashr bvult bvule bvugt bvuge bvslt bvsle bvsgt bvsge concat select store").split(" "));
    private static final Set<String> INDEXED = Set.of("extract", "zero_extend", "sign_extend");
    private static final Set<String> NO_OPERATORS = Set.of("declare-const", "define-fun", "assert", "Bool", "_", "BitVec", "Array",
        "true", "false", "let", "extract", "zero_extend", "sign_extend");
    private static final Set<String> OF_BOOLS = Set.of("not", "and", "or", "xor", "=>");
    private static final Set<String> COMPARED = Set.of("bvult", "bvule", "bvugt", "bvuge", "bvslt", "bvsle", "bvsgt", "bvsge");
    private static final Set<String> OF_ONE = Set.of("not", "bvnot", "bvneg", "extract", "zero_extend", "sign_extend");
    private static final Set<String> OF_MANY = Set.of("and", "or", "xor", "=>", "=", "distinct", "bvand", "bvor", "bvxor", "bvadd",
        "bvmul", "concat");

    /** The first fault of a text. */
    static final class Fault extends RuntimeException {
        private static final long serialVersionUID = 1L;
        final int kind;
        final int place;

        Fault(int kind, int place) {
            super("fault " + kind + " at " + place);
            this.kind = kind;
            this.place = place;
        }
    }

    /** A word or bracket: its first sign tells which; the kind of a word is n, c or s. */
    private record Word(char kind, String text, int place) {
    }

    /** A let's symbols so far, as a chain; those of a let that is still binding are not shown. */
    private record Scope(String symbol, Problem.Sort sort, Scope outer) {
    }

    /** What counts of all texts. */
    private static final class Book {
        int terms;
        long weight;
        int assertions;
        int nameBytes;
        final List<Problem.Sort> nameSorts = new ArrayList<>();
        final Map<String, Problem.Sort> names = new HashMap<>();
        final List<Integer> thingNames = new ArrayList<>();

        Book copy() {
            Book other = new Book();
            other.terms = terms;
            other.weight = weight;
            other.assertions = assertions;
            other.nameBytes = nameBytes;
            other.nameSorts.addAll(nameSorts);
            other.names.putAll(names);
            other.thingNames.addAll(thingNames);
            return other;
        }
    }

    private Book kept = new Book();
    private Book book;
    private String text;
    private int at;
    private int open;
    private int bound;
    private int commands;
    private Fault fault;

    /** As the solver's read(), fault(0) and fault(1), and its counts and things behind it. */
    String read(String itsText) {
        text = itsText;
        at = 0;
        open = 0;
        bound = 0;
        commands = 0;
        fault = null;
        book = kept.copy();
        try {
            while (skipBlanks() < text.length()) {
                command();
                commands++;
            }
            kept = book;
        } catch (Fault e) {
            fault = e;
        }
        return shown();
    }

    int faultKind() {
        return fault == null ? 0 : fault.kind;
    }

    private String shown() {
        StringBuilder all = new StringBuilder();
        all.append(fault == null ? commands : -1).append(" fault ").append(faultKind());
        all.append(" at ").append(fault == null ? -1 : fault.place);
        long size = 0;
        StringBuilder things = new StringBuilder();
        for (int name : kept.thingNames) {
            Problem.Sort sort = kept.nameSorts.get(name);
            size += sort.size();
            int kind = sort.width() == 0 ? 0 : sort.index() == 0 ? 1 : 2;
            things.append(" [").append(kind).append(' ').append(sort.width()).append(' ').append(sort.index());
            things.append(' ').append(name).append(']');
        }
        all.append(" counts ").append(kept.terms).append(' ').append(kept.nameSorts.size()).append(' ').append(kept.assertions);
        all.append(" 0 ").append(kept.thingNames.size()).append(' ').append(size).append(' ').append(kept.weight);
        return all.append(things).toString();
    }

    /** The same of a solver that has just read. */
    static String shown(int got, VectorSolver solver) {
        StringBuilder all = new StringBuilder();
        all.append(got).append(" fault ").append(solver.fault(0)).append(" at ").append(solver.fault(1)).append(" counts");
        for (int what = 0; what < 7; what++) {
            all.append(' ').append(solver.count(what));
        }
        for (int thing = 0; thing < solver.count(4); thing++) {
            all.append(" [").append(solver.thing(thing, 0)).append(' ').append(solver.thing(thing, 1)).append(' ');
            all.append(solver.thing(thing, 2)).append(' ').append(solver.thing(thing, 3)).append(']');
        }
        return all.toString();
    }

    private int skipBlanks() {
        while (at < text.length()) {
            char sign = text.charAt(at);
            if (sign == ';') {
                int line = text.indexOf('\n', at);
                at = line < 0 ? text.length() : line;
            } else if (sign == 9 || sign == 10 || sign == 13 || sign == 32) {
                at++;
            } else {
                break;
            }
        }
        return at;
    }

    private Word next() {
        int place = skipBlanks();
        if (place == text.length()) {
            throw new Fault(3, place);
        }
        char sign = text.charAt(place);
        if (sign == '(' || sign == ')') {
            at++;
            if (sign == '(' && open == 60) {
                throw new Fault(10, place);
            }
            open += sign == '(' ? 1 : -1;
            return new Word(sign, String.valueOf(sign), place);
        }
        while (at < text.length() && text.substring(at, at + 1).matches("[A-Za-z0-9~!@$%^&*_+=<>.?/#-]")) {
            at++;
        }
        if (at == place) {
            throw new Fault(1, place);
        }
        String word = text.substring(place, at);
        if (word.matches("0|[1-9][0-9]*")) {
            return new Word('n', word, place);
        }
        if (word.matches("#b[01]{1,64}|#x[0-9a-fA-F]{1,16}")) {
            return new Word('c', word, place);
        }
        if (word.matches("[^0-9#].*")) {
            return new Word('s', word, place);
        }
        throw new Fault(2, place);
    }

    private Word want(char kind) {
        Word word = next();
        if (word.kind != kind) {
            throw new Fault(4, word.place);
        }
        return word;
    }

    private void want(String symbol) {
        Word word = next();
        if (!word.text.equals(symbol)) {
            throw new Fault(4, word.place);
        }
    }

    private void command() {
        want('(');
        Word word = next();
        switch (word.text) {
            case "declare-const": {
                Word name = newName();
                Problem.Sort sort = sort();
                make(name.place, sort.size());
                book.thingNames.add(book.nameSorts.size());
                addName(name, sort);
                break;
            }
            case "define-fun": {
                Word name = newName();
                want('(');
                want(')');
                Problem.Sort sort = sort();
                termOf(sort);
                addName(name, sort);
                break;
            }
            case "assert": {
                int place = termOf(Problem.Sort.BOOL);
                if (book.assertions == 500) {
                    throw new Fault(11, place);
                }
                book.assertions++;
                break;
            }
            default:
                throw new Fault(4, word.place);
        }
        want(')');
    }

    private Word newName() {
        Word name = want('s');
        if (RESERVED.contains(name.text) || book.names.containsKey(name.text)) {
            throw new Fault(6, name.place);
        }
        if (book.nameSorts.size() == 500 || book.nameBytes + name.text.length() > 65536) {
            throw new Fault(11, name.place);
        }
        return name;
    }

    private void addName(Word name, Problem.Sort sort) {
        book.names.put(name.text, sort);
        book.nameSorts.add(sort);
        book.nameBytes += name.text.length();
    }

    private Problem.Sort sort() {
        Word word = next();
        if (word.text.equals("Bool")) {
            return Problem.Sort.BOOL;
        }
        if (word.kind != '(') {
            throw new Fault(4, word.place);
        }
        word = next();
        if (word.text.equals("_")) {
            return new Problem.Sort(0, restOfVector(64));
        }
        if (!word.text.equals("Array")) {
            throw new Fault(4, word.place);
        }
        want('(');
        want("_");
        int index = restOfVector(6);
        want('(');
        want("_");
        int width = restOfVector(64);
        want(')');
        return new Problem.Sort(index, width);
    }

    private int restOfVector(int most) {
        want("BitVec");
        Word word = want('n');
        long width = number(word);
        if (width < 1 || width > most) {
            throw new Fault(7, word.place);
        }
        want(')');
        return (int) width;
    }

    private static long number(Word word) {
        if (word.text.length() > 10 || Long.parseLong(word.text) > Integer.MAX_VALUE) {
            throw new Fault(7, word.place);
        }
        return Long.parseLong(word.text);
    }

    private void make(int place, long weight) {
        if (book.terms == 2000) {
            throw new Fault(11, place);
        }
        if (book.weight + weight > 100000) {
            throw new Fault(12, place);
        }
        book.terms++;
        book.weight += weight;
    }

    /** A term that must be of a sort: where it begins. */
    private int termOf(Problem.Sort sort) {
        Word word = next();
        if (!term(word, null).equals(sort)) {
            throw new Fault(9, word.place);
        }
        return word.place;
    }

    private Problem.Sort term(Word word, Scope scope) {
        switch (word.kind) {
            case 'c': {
                int digits = word.text.length() - 2;
                int width = word.text.charAt(1) == 'b' ? digits : 4 * digits;
                make(word.place, width);
                return new Problem.Sort(0, width);
            }
            case 's':
                return symbol(word, scope);
            case '(':
                return application(word, scope);
            default:
                throw new Fault(4, word.place);
        }
    }

    private Problem.Sort symbol(Word word, Scope scope) {
        if (word.text.equals("true") || word.text.equals("false")) {
            make(word.place, 1);
            return Problem.Sort.BOOL;
        }
        for (Scope each = scope; each != null; each = each.outer) {
            if (each.symbol.equals(word.text)) {
                return each.sort;
            }
        }
        Problem.Sort sort = book.names.get(word.text);
        if (sort == null) {
            throw new Fault(5, word.place);
        }
        return sort;
    }

    private Problem.Sort let(Scope scope) {
        Scope inner = scope;
        List<String> symbols = new ArrayList<>();
        want('(');
        Word word = want('(');
        while (word.kind == '(') {
            Word symbol = want('s');
            if (RESERVED.contains(symbol.text) || symbols.contains(symbol.text)) {
                throw new Fault(6, symbol.place);
            }
            if (bound == 16) {
                throw new Fault(11, symbol.place);
            }
            bound++;
            symbols.add(symbol.text);
            inner = new Scope(symbol.text, term(next(), scope), inner);
            want(')');
            word = next();
        }
        if (word.kind != ')') {
            throw new Fault(4, word.place);
        }
        Problem.Sort sort = term(next(), inner);
        want(')');
        bound -= symbols.size();
        return sort;
    }

    private Problem.Sort application(Word bracket, Scope scope) {
        Word word = next();
        if (word.text.equals("let")) {
            return let(scope);
        }
        String op = word.text;
        long high = 0;
        long low = 0;
        if (word.kind == '(') {
            want("_");
            Word indexed = next();
            op = indexed.text;
            if (!INDEXED.contains(op)) {
                throw new Fault(4, indexed.place);
            }
            high = number(want('n'));
            if (op.equals("extract")) {
                Word second = want('n');
                low = number(second);
                if (low > high) {
                    throw new Fault(7, second.place);
                }
            }
            want(')');
        } else if (!RESERVED.contains(op) || NO_OPERATORS.contains(op)) {
            throw new Fault(4, word.place);
        }
        List<Problem.Sort> sorts = new ArrayList<>();
        for (Word argument = next(); argument.kind != ')'; argument = next()) {
            sorts.add(term(argument, scope));
            if (sorts.size() > 40) {
                throw new Fault(11, bracket.place);
            }
        }
        if (!fits(op, sorts.size())) {
            throw new Fault(8, bracket.place);
        }
        Problem.Sort sort = result(op, sorts, high, low);
        if (sort == null) {
            throw new Fault(9, bracket.place);
        }
        make(bracket.place, weight(op, sort.size(), sorts.get(0).size(), sorts.size()));
        return sort;
    }

    private static boolean fits(String op, int many) {
        if (OF_ONE.contains(op)) {
            return many == 1;
        }
        if (OF_MANY.contains(op)) {
            return many >= 2;
        }
        return many == (op.equals("ite") || op.equals("store") ? 3 : 2);
    }

    /** None, as null, where the sorts don't fit or it were too wide. */
    private static Problem.Sort result(String op, List<Problem.Sort> sorts, long high, long low) {
        Problem.Sort first = sorts.get(0);
        boolean vector = first.width() > 0 && first.index() == 0;
        boolean same = sorts.stream().distinct().count() == 1;
        if (OF_BOOLS.contains(op)) {
            return same && first.width() == 0 ? first : null;
        }
        if (COMPARED.contains(op)) {
            return same && vector ? Problem.Sort.BOOL : null;
        }
        switch (op) {
            case "=":
            case "distinct":
                return same ? Problem.Sort.BOOL : null;
            case "ite":
                return first.width() == 0 && sorts.get(1).equals(sorts.get(2)) ? sorts.get(1) : null;
            case "concat": {
                boolean vectors = sorts.stream().allMatch(each -> each.width() > 0 && each.index() == 0);
                return vectors ? wide(sorts.stream().mapToLong(Problem.Sort::width).sum()) : null;
            }
            case "extract":
                return vector && high < first.width() ? wide(high - low + 1) : null;
            case "zero_extend":
            case "sign_extend":
                return vector ? wide(first.width() + high) : null;
            case "select":
                return isIndex(sorts) ? new Problem.Sort(0, first.width()) : null;
            case "store":
                return isIndex(sorts) && sorts.get(2).equals(new Problem.Sort(0, first.width())) ? first : null;
            default:
                return same && vector ? first : null;
        }
    }

    private static Problem.Sort wide(long width) {
        return width <= 64 ? new Problem.Sort(0, (int) width) : null;
    }

    private static boolean isIndex(List<Problem.Sort> sorts) {
        return sorts.get(0).index() > 0 && sorts.get(1).equals(new Problem.Sort(0, sorts.get(0).index()));
    }

    private static long weight(String op, long own, long s, long n) {
        switch (op) {
            case "not": case "bvnot": return s;
            case "and": case "or": case "xor": case "=>": case "bvand": case "bvor": case "bvxor": return 4 * s * (n - 1);
            case "ite": return 4 * own;
            case "=": return 5 * s * (n - 1);
            case "distinct": return 5 * s * n * (n - 1);
            case "bvneg": return 10 * s;
            case "bvadd": return 10 * s * (n - 1);
            case "bvmul": return 14 * s * s * (n - 1);
            case "bvudiv": case "bvurem": return 16 * s * s + 32 * s;
            case "bvsdiv": case "bvsrem": return 16 * s * s + 80 * s;
            case "bvshl": case "bvlshr": case "bvashr": return 30 * s;
            case "concat": case "extract": case "zero_extend": case "sign_extend": return own;
            case "select": case "store": return 8 * s;
            default: return 10 * s;
        }
    }
}
