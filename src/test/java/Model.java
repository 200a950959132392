import java.nio.charset.StandardCharsets;
import java.util.ArrayList;
import java.util.Arrays;
import java.util.HashMap;
import java.util.HashSet;
import java.util.IdentityHashMap;
import java.util.List;
import java.util.Map;
import java.util.Set;

/**
 * The whole face of the solver once more, by the plainest means: it works terms out on rows of bits, and tries
 * all interpretations in turn. A call answers a number, true or false, or the name of what the solver must throw.
 */
final class Model {
    static final String ARGUMENT = "argument";
    static final String STATE = "state";
    private static final String SIGNS = "~!@$%^&*_-+=<>.?/#";

    /** What operators take and give, and how many arguments: a + for more. */
    private static final String OPERATORS = "not:bool:1 and:bool:2+ or:bool:2+ xor:bool:2+ =>:bool:2+ ite:ite:3 =:same:2+ distinct:same:2+ "
        + "bvnot:wide:1 bvneg:wide:1 bvand:wide:2+ bvor:wide:2+ bvxor:wide:2+ bvadd:wide:2+ bvmul:wide:2+ bvsub:wide:2 bvudiv:wide:2 "
        + "bvurem:wide:2 bvsdiv:wide:2 bvsrem:wide:2 bvshl:wide:2 bvlshr:wide:2 bvashr:wide:2 bvult:order:2 bvule:order:2 bvugt:order:2 "
        + "bvuge:order:2 bvslt:order:2 bvsle:order:2 bvsgt:order:2 bvsge:order:2 concat:join:2+ select:select:2 store:store:3";
    private static final Map<String, String[]> SHAPES = new HashMap<>();
    private static final Set<String> RESERVED = new HashSet<>(Arrays.asList("declare-const", "define-fun", "assert", "Bool", "_", "BitVec",
        "Array", "true", "false", "let", "extract", "zero_extend", "sign_extend"));

    static {
        for (String each : OPERATORS.split(" ")) {
            String[] parts = each.split(":");
            SHAPES.put(parts[0], parts);
            RESERVED.add(parts[0]);
        }
    }

    /** Index -1 and width 0 a Bool, index 0 a vector. */
    record Sort(int index, int width) {
        static final Sort BOOL = new Sort(-1, 0);

        boolean isVector() {
            return index == 0;
        }

        boolean isArray() {
            return index > 0;
        }

        int cells() {
            return isArray() ? 1 << index : 1;
        }

        int cellSize() {
            return width == 0 ? 1 : width;
        }

        int size() {
            return cells() * cellSize();
        }
    }

    /** A declared thing has its number, a constant its bits, an application its arguments. */
    record Term(String op, Sort sort, int weight, int thing, boolean[] bits, List<Term> arguments, int high, int low) {
    }

    record Name(String symbol, Term term) {
    }

    private record Piece(String text, int place) {
        boolean isNumeral() {
            return Character.isDigit(text.charAt(0));
        }

        boolean isConstant() {
            return text.charAt(0) == '#';
        }

        boolean isSymbol() {
            return !isNumeral() && !isConstant() && !text.equals("(") && !text.equals(")");
        }
    }

    private static final class Fault extends RuntimeException {
        private static final long serialVersionUID = 1L;
        final int kind;
        final int place;

        Fault(int kind, int place) {
            this.kind = kind;
            this.place = place;
        }
    }

    private String text = "";
    private int faultKind = 0;
    private int faultPlace = -1;
    private List<Term> terms = new ArrayList<>();
    private List<Name> names = new ArrayList<>();
    private List<Term> assertions = new ArrayList<>();
    private long effortLeft = 200000000;
    /** The cells of the things that were declared when it was found. */
    private List<boolean[][]> found;
    private int foundFalse;

    // ---- the face

    Object feed(int... five) {
        if (text.length() + 20 > 65536) {
            return STATE;
        }
        StringBuilder more = new StringBuilder(text);
        for (int each : five) {
            for (int turn = 1; turn <= 4; turn++) {
                more.append((char) (Integer.rotateLeft(each, 8 * turn) & 255));
            }
        }
        text = more.toString();
        return text.length();
    }

    Object trim(int n) {
        if (n < 0 || n > 20 || n > text.length()) {
            return ARGUMENT;
        }
        text = text.substring(0, text.length() - n);
        return text.length();
    }

    Object read() {
        List<Term> keptTerms = new ArrayList<>(terms);
        List<Name> keptNames = new ArrayList<>(names);
        List<Term> keptAssertions = new ArrayList<>(assertions);
        at = 0;
        open = 0;
        bindings = 0;
        faultKind = 0;
        faultPlace = -1;
        int commands = 0;
        try {
            while (peekPlace() < text.length()) {
                command();
                commands++;
            }
        } catch (Fault e) {
            faultKind = e.kind;
            faultPlace = e.place;
            terms = keptTerms;
            names = keptNames;
            assertions = keptAssertions;
            commands = -1;
        }
        text = "";
        return commands;
    }

    Object fault(int what) {
        return what == 0 ? (Object) faultKind : what == 1 ? (Object) faultPlace : ARGUMENT;
    }

    Object check() {
        return searched(0, null);
    }

    Object more() {
        if (found == null) {
            return check();
        }
        return size() > 16 ? STATE : searched(rank(grown()) + 1, null);
    }

    Object suppose(int name) {
        if (name < 0 || name >= names.size() || !names.get(name).term.sort.equals(Sort.BOOL)) {
            return ARGUMENT;
        }
        return searched(0, names.get(name).term);
    }

    Object value(int thing, int cell) {
        if (thing < 0 || thing >= things().size() || cell < 0 || cell >= things().get(thing).sort.cells()) {
            return ARGUMENT;
        }
        if (found == null) {
            return STATE;
        }
        return thing < found.size() ? Bits.number(found.get(thing)[cell]) : 0L;
    }

    Object named(int name) {
        if (name < 0 || name >= names.size() || names.get(name).term.sort.isArray()) {
            return ARGUMENT;
        }
        if (found == null || size() > 16) {
            return STATE;
        }
        return Bits.number(worth(names.get(name).term, grown(), new IdentityHashMap<>())[0]);
    }

    Object missed() {
        return found == null ? 0 : foundFalse;
    }

    Object refused() {
        return 0;
    }

    Object thing(int thing, int what) {
        if (thing < 0 || thing >= things().size() || what < 0 || what > 3) {
            return ARGUMENT;
        }
        Term term = things().get(thing);
        int name = 0;
        while (names.get(name).term != term) {
            name++;
        }
        int kind = term.sort.isArray() ? 2 : term.sort.isVector() ? 1 : 0;
        return new int[] {kind, term.sort.width, Math.max(0, term.sort.index), name}[what];
    }

    Object count(int what) {
        switch (what) {
            case 0: return terms.size();
            case 1: return names.size();
            case 2: return assertions.size();
            case 3: return text.length();
            case 4: return things().size();
            case 5: return size();
            case 6: return weight();
            default: return ARGUMENT;
        }
    }

    // ---- what is known

    List<Name> names() {
        return names;
    }

    private List<Term> things() {
        List<Term> all = new ArrayList<>(terms);
        all.removeIf(term -> term.thing < 0);
        return all;
    }

    private int size() {
        return things().stream().mapToInt(thing -> thing.sort.size()).sum();
    }

    private int weight() {
        return terms.stream().mapToInt(term -> term.weight).sum();
    }

    // ---- searching

    private Object searched(long from, Term supposed) {
        int size = size();
        if (size > 16 || ((long) terms.size() << size) > effortLeft) {
            return STATE;
        }
        effortLeft -= (long) terms.size() << size;
        List<Term> due = new ArrayList<>(assertions);
        if (supposed != null) {
            due.add(supposed);
        }
        found = null;
        for (long rank = from; rank < 1L << size && found == null; rank++) {
            List<boolean[][]> values = ranked(rank);
            Map<Term, boolean[][]> known = new IdentityHashMap<>();
            if (due.stream().allMatch(term -> worth(term, values, known)[0][0])) {
                found = values;
                foundFalse = 0;
            }
        }
        return found != null;
    }

    /** All bits of all cells behind one another are the number of an interpretation among all of them. */
    private List<boolean[][]> ranked(long rank) {
        List<boolean[][]> values = new ArrayList<>();
        int left = size();
        for (Term thing : things()) {
            boolean[][] cells = new boolean[thing.sort.cells()][];
            for (int cell = 0; cell < cells.length; cell++) {
                left -= thing.sort.cellSize();
                cells[cell] = Bits.of(rank >> left, thing.sort.cellSize());
            }
            values.add(cells);
        }
        return values;
    }

    private static long rank(List<boolean[][]> values) {
        long rank = 0;
        for (boolean[][] cells : values) {
            for (boolean[] cell : cells) {
                rank = (rank << cell.length) + Bits.number(cell);
            }
        }
        return rank;
    }

    private List<boolean[][]> grown() {
        List<boolean[][]> values = new ArrayList<>(found);
        for (Term thing : things().subList(found.size(), things().size())) {
            values.add(new boolean[thing.sort.cells()][thing.sort.cellSize()]);
        }
        return values;
    }

    private static boolean[][] worth(Term term, List<boolean[][]> values, Map<Term, boolean[][]> known) {
        if (term.thing >= 0) {
            return values.get(term.thing);
        }
        if (term.bits != null) {
            return new boolean[][] {term.bits};
        }
        boolean[][] worth = known.get(term);
        if (worth == null) {
            List<boolean[][]> all = new ArrayList<>();
            for (Term argument : term.arguments) {
                all.add(worth(argument, values, known));
            }
            worth = applied(term, all);
            known.put(term, worth);
        }
        return worth;
    }

    private static boolean[][] applied(Term term, List<boolean[][]> all) {
        boolean[][] first = all.get(0);
        switch (term.op) {
            case "ite":
                return all.get(first[0][0] ? 1 : 2);
            case "select":
                return new boolean[][] {first[(int) Bits.number(all.get(1)[0])]};
            case "store": {
                boolean[][] changed = first.clone();
                changed[(int) Bits.number(all.get(1)[0])] = all.get(2)[0];
                return changed;
            }
            case "=": case "distinct": {
                boolean want = term.op.equals("=");
                boolean holds = true;
                for (int i = 0; i < all.size(); i++) {
                    for (int j = 0; j < i; j++) {
                        holds &= Arrays.deepEquals(all.get(i), all.get(j)) == want;
                    }
                }
                return new boolean[][] {Bits.of(holds)};
            }
            case "=>": {
                boolean[] last = all.get(all.size() - 1)[0];
                for (int i = all.size() - 2; i >= 0; i--) {
                    last = Bits.or(Bits.not(all.get(i)[0]), last);
                }
                return new boolean[][] {last};
            }
            default: {
                boolean[] bits = all.size() == 1 ? ofOne(term, first[0]) : first[0];
                for (int i = 1; i < all.size(); i++) {
                    bits = ofTwo(term.op, bits, all.get(i)[0]);
                }
                return new boolean[][] {bits};
            }
        }
    }

    private static boolean[] ofOne(Term term, boolean[] a) {
        switch (term.op) {
            case "not": case "bvnot": return Bits.not(a);
            case "bvneg": return Bits.negate(a);
            case "extract": return Arrays.copyOfRange(a, term.low, term.high + 1);
            case "zero_extend": return Bits.extended(a, term.high, false);
            case "sign_extend": return Bits.extended(a, term.high, a[a.length - 1]);
            default: throw new IllegalStateException(term.op);
        }
    }

    private static boolean[] ofTwo(String op, boolean[] a, boolean[] b) {
        switch (op) {
            case "and": case "bvand": return Bits.and(a, b);
            case "or": case "bvor": return Bits.or(a, b);
            case "xor": case "bvxor": return Bits.xor(a, b);
            case "bvadd": return Bits.add(a, b);
            case "bvmul": return Bits.multiply(a, b);
            case "bvsub": return Bits.subtract(a, b);
            case "bvudiv": return Bits.quotient(a, b);
            case "bvurem": return Bits.rest(a, b);
            case "bvsdiv": return Bits.signedQuotient(a, b);
            case "bvsrem": return Bits.signedRest(a, b);
            case "bvshl": case "bvlshr": case "bvashr": return Bits.shift(op, a, b);
            case "bvult": return Bits.of(Bits.less(a, b));
            case "bvule": return Bits.of(!Bits.less(b, a));
            case "bvugt": return Bits.of(Bits.less(b, a));
            case "bvuge": return Bits.of(!Bits.less(a, b));
            case "bvslt": return Bits.of(Bits.signedLess(a, b));
            case "bvsle": return Bits.of(!Bits.signedLess(b, a));
            case "bvsgt": return Bits.of(Bits.signedLess(b, a));
            case "bvsge": return Bits.of(!Bits.signedLess(a, b));
            case "concat": return Bits.joined(a, b);
            default: throw new IllegalStateException(op);
        }
    }

    // ---- reading

    private int at;
    private int open;
    private int bindings;

    private int peekPlace() {
        while (at < text.length()) {
            if (text.charAt(at) == ';') {
                while (at < text.length() && text.charAt(at) != '\n') {
                    at++;
                }
            } else if ("\t\n\r ".indexOf(text.charAt(at)) >= 0) {
                at++;
            } else {
                return at;
            }
        }
        return at;
    }

    private static boolean isWordSign(char sign) {
        return sign < 128 && (Character.isLetterOrDigit(sign) || SIGNS.indexOf(sign) >= 0);
    }

    private Piece piece() {
        int place = peekPlace();
        if (place == text.length()) {
            throw new Fault(3, place);
        }
        char first = text.charAt(place);
        at++;
        if (first == '(') {
            if (open >= 60) {
                throw new Fault(10, place);
            }
            open++;
        } else if (first == ')') {
            open--;
        } else if (!isWordSign(first)) {
            throw new Fault(1, place);
        } else {
            while (at < text.length() && isWordSign(text.charAt(at))) {
                at++;
            }
            askForm(text.substring(place, at), place);
        }
        return new Piece(text.substring(place, at), place);
    }

    private static void askForm(String word, int place) {
        char first = word.charAt(0);
        boolean good = true;
        if (Character.isDigit(first)) {
            good = word.chars().allMatch(Character::isDigit) && (word.length() == 1 || first != '0');
        } else if (first == '#') {
            String digits = word.length() > 2 ? word.substring(2).toLowerCase() : "";
            boolean binary = word.startsWith("#b") && digits.length() <= 64;
            boolean hex = word.startsWith("#x") && digits.length() <= 16;
            String all = binary ? "01" : "0123456789abcdef";
            good = (binary || hex) && !digits.isEmpty() && digits.chars().allMatch(each -> all.indexOf(each) >= 0);
        }
        if (!good) {
            throw new Fault(2, place);
        }
    }

    private static Fault other(Piece piece) {
        return new Fault(4, piece.place);
    }

    private Piece want(String word) {
        Piece piece = piece();
        if (!piece.text.equals(word)) {
            throw other(piece);
        }
        return piece;
    }

    private Piece wantSymbol() {
        Piece piece = piece();
        if (!piece.isSymbol()) {
            throw other(piece);
        }
        return piece;
    }

    private int wantNumeral(int least, int most) {
        Piece piece = piece();
        if (!piece.isNumeral()) {
            throw other(piece);
        }
        boolean fits = piece.text.length() <= 10 && Long.parseLong(piece.text) <= 2147483647L;
        if (!fits || Integer.parseInt(piece.text) < least || Integer.parseInt(piece.text) > most) {
            throw new Fault(7, piece.place);
        }
        return Integer.parseInt(piece.text);
    }

    private void command() {
        want("(");
        Piece command = piece();
        if (command.text.equals("assert")) {
            Piece begin = piece();
            Term term = termOf(begin, Sort.BOOL);
            if (assertions.size() + 1 > 500) {
                throw new Fault(11, begin.place);
            }
            assertions.add(term);
            want(")");
            return;
        }
        boolean declared = command.text.equals("declare-const");
        if (!declared && !command.text.equals("define-fun")) {
            throw other(command);
        }
        Piece symbol = wantNewName();
        Term term;
        if (declared) {
            Sort sort = sort();
            term = make(symbol.place, new Term("thing", sort, sort.size(), things().size(), null, null, 0, 0));
        } else {
            want("(");
            want(")");
            Sort sort = sort();
            term = termOf(piece(), sort);
        }
        want(")");
        names.add(new Name(symbol.text, term));
    }

    private Piece wantNewName() {
        Piece symbol = wantSymbol();
        int bytes = symbol.text.getBytes(StandardCharsets.ISO_8859_1).length;
        for (Name name : names) {
            bytes += name.symbol.length();
            if (name.symbol.equals(symbol.text)) {
                throw new Fault(6, symbol.place);
            }
        }
        if (RESERVED.contains(symbol.text)) {
            throw new Fault(6, symbol.place);
        }
        if (names.size() + 1 > 500 || bytes > 65536) {
            throw new Fault(11, symbol.place);
        }
        return symbol;
    }

    private Sort sort() {
        Piece first = piece();
        if (first.text.equals("Bool")) {
            return Sort.BOOL;
        }
        if (!first.text.equals("(")) {
            throw other(first);
        }
        Piece second = piece();
        if (second.text.equals("Array")) {
            int index = vectorWidth(6);
            int width = vectorWidth(64);
            want(")");
            return new Sort(index, width);
        }
        if (!second.text.equals("_")) {
            throw other(second);
        }
        want("BitVec");
        int width = wantNumeral(1, 64);
        want(")");
        return new Sort(0, width);
    }

    private int vectorWidth(int most) {
        want("(");
        want("_");
        want("BitVec");
        int width = wantNumeral(1, most);
        want(")");
        return width;
    }

    private Term make(int place, Term term) {
        if (terms.size() + 1 > 2000) {
            throw new Fault(11, place);
        }
        if (weight() + term.weight > 100000) {
            throw new Fault(12, place);
        }
        terms.add(term);
        return term;
    }

    private Term termOf(Piece begin, Sort sort) {
        Term term = term(begin, new HashMap<>());
        if (!term.sort.equals(sort)) {
            throw new Fault(9, begin.place);
        }
        return term;
    }

    private Term constant(int place, Sort sort, boolean[] bits) {
        return make(place, new Term("constant", sort, sort.size(), -1, bits, null, 0, 0));
    }

    private Term term(Piece begin, Map<String, Term> bound) {
        if (begin.text.equals("(")) {
            return application(begin, bound);
        }
        if (begin.isConstant()) {
            boolean binary = begin.text.charAt(1) == 'b';
            int width = (begin.text.length() - 2) * (binary ? 1 : 4);
            long number = Long.parseUnsignedLong(begin.text.substring(2), binary ? 2 : 16);
            return constant(begin.place, new Sort(0, width), Bits.of(number, width));
        }
        if (!begin.isSymbol()) {
            throw other(begin);
        }
        if (begin.text.equals("true") || begin.text.equals("false")) {
            return constant(begin.place, Sort.BOOL, Bits.of(begin.text.equals("true")));
        }
        if (bound.containsKey(begin.text)) {
            return bound.get(begin.text);
        }
        for (Name name : names) {
            if (name.symbol.equals(begin.text)) {
                return name.term;
            }
        }
        throw new Fault(5, begin.place);
    }

    private Term let(Map<String, Term> outside) {
        Map<String, Term> own = new HashMap<>();
        want("(");
        Piece piece = want("(");
        while (!piece.text.equals(")")) {
            Piece symbol = wantSymbol();
            if (RESERVED.contains(symbol.text) || own.containsKey(symbol.text)) {
                throw new Fault(6, symbol.place);
            }
            bindings++;
            if (bindings > 16) {
                throw new Fault(11, symbol.place);
            }
            own.put(symbol.text, term(piece(), outside));
            want(")");
            piece = piece();
            if (!piece.text.equals("(") && !piece.text.equals(")")) {
                throw other(piece);
            }
        }
        Map<String, Term> inside = new HashMap<>(outside);
        inside.putAll(own);
        Term term = term(piece(), inside);
        want(")");
        bindings -= own.size();
        return term;
    }

    private Term application(Piece bracket, Map<String, Term> bound) {
        Piece head = piece();
        if (head.text.equals("let")) {
            return let(bound);
        }
        String op = head.text;
        int high = 0;
        int low = 0;
        String[] shape = SHAPES.get(op);
        if (op.equals("(")) {
            want("_");
            Piece indexed = piece();
            op = indexed.text;
            if (!op.equals("extract") && !op.equals("zero_extend") && !op.equals("sign_extend")) {
                throw other(indexed);
            }
            high = wantNumeral(0, Integer.MAX_VALUE);
            low = op.equals("extract") ? wantNumeral(0, high) : 0;
            want(")");
            shape = new String[] {op, op, "1"};
        } else if (shape == null) {
            throw other(head);
        }
        List<Term> arguments = new ArrayList<>();
        for (Piece piece = piece(); !piece.text.equals(")"); piece = piece()) {
            arguments.add(term(piece, bound));
            if (arguments.size() > 40) {
                throw new Fault(11, bracket.place);
            }
        }
        int least = shape[2].charAt(0) - '0';
        if (arguments.size() < least || arguments.size() > least && !shape[2].endsWith("+")) {
            throw new Fault(8, bracket.place);
        }
        Sort sort = sortOf(shape[1], arguments, high, low);
        if (sort == null) {
            throw new Fault(9, bracket.place);
        }
        int weight = weightOf(op, sort, arguments);
        return make(bracket.place, new Term(op, sort, weight, -1, null, arguments, high, low));
    }

    private static Sort sortOf(String shape, List<Term> arguments, int high, int low) {
        Sort first = arguments.get(0).sort;
        Sort last = arguments.get(arguments.size() - 1).sort;
        boolean same = arguments.stream().allMatch(each -> each.sort.equals(first));
        boolean vectors = arguments.stream().allMatch(each -> each.sort.isVector());
        int wide = arguments.stream().mapToInt(each -> each.sort.width).sum();
        switch (shape) {
            case "bool": return same && first.equals(Sort.BOOL) ? Sort.BOOL : null;
            case "ite": return first.equals(Sort.BOOL) && arguments.get(1).sort.equals(last) ? last : null;
            case "same": return same ? Sort.BOOL : null;
            case "wide": return same && vectors ? first : null;
            case "order": return same && vectors ? Sort.BOOL : null;
            case "join": return vectors && wide <= 64 ? new Sort(0, wide) : null;
            case "select": return isIndexed(first, arguments) ? new Sort(0, first.width) : null;
            case "store": return isIndexed(first, arguments) && last.equals(new Sort(0, first.width)) ? first : null;
            case "extract": return vectors && high < wide ? new Sort(0, high - low + 1) : null;
            default: return vectors && (long) wide + high <= 64 ? new Sort(0, wide + high) : null;
        }
    }

    private static boolean isIndexed(Sort array, List<Term> arguments) {
        return array.isArray() && arguments.get(1).sort.equals(new Sort(0, array.index));
    }

    private static int weightOf(String op, Sort sort, List<Term> arguments) {
        int n = arguments.size();
        int s = arguments.get(0).sort.size();
        switch (op) {
            case "not": case "bvnot":
                return s;
            case "and": case "or": case "xor": case "=>": case "bvand": case "bvor": case "bvxor":
                return 4 * s * (n - 1);
            case "ite":
                return 4 * arguments.get(1).sort.size();
            case "=":
                return 5 * s * (n - 1);
            case "distinct":
                return 5 * s * n * (n - 1);
            case "bvadd":
                return 10 * s * (n - 1);
            case "bvneg": case "bvsub":
            case "bvult": case "bvule": case "bvugt": case "bvuge": case "bvslt": case "bvsle": case "bvsgt": case "bvsge":
                return 10 * s;
            case "bvmul":
                return 14 * s * s * (n - 1);
            case "bvudiv": case "bvurem":
                return 16 * s * s + 32 * s;
            case "bvsdiv": case "bvsrem":
                return 16 * s * s + 80 * s;
            case "bvshl": case "bvlshr": case "bvashr":
                return 30 * s;
            case "concat": case "extract": case "zero_extend": case "sign_extend":
                return sort.width;
            case "select": case "store":
                return 8 * s;
            default:
                throw new IllegalStateException(op);
        }
    }
}
