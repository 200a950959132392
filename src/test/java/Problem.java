import java.math.BigInteger;
import java.util.ArrayList;
import java.util.Arrays;
import java.util.Collections;
import java.util.List;
import java.util.Random;

/**
 * A random problem that works itself out by its own means, on big numbers and lists: what the solver
 * answers is held against it.
 */
final class Problem {
    private static final String[] FOLDED = {"bvand", "bvor", "bvxor", "bvadd", "bvmul"};
    private static final String[] PAIRED =
        {"bvsub", "bvudiv", "bvurem", "bvsdiv", "bvsrem", "bvshl", "bvlshr", "bvashr"};
    private static final String[] COMPARED =
        {"bvult", "bvule", "bvugt", "bvuge", "bvslt", "bvsle", "bvsgt", "bvsge"};

    /** A sort: index width 0 and width 0 a Bool, index width 0 a vector, else an array. */
    record Sort(int index, int width) {
        static final Sort BOOL = new Sort(0, 0);

        int size() {
            return width == 0 ? 1 : width << index;
        }

        @Override
        public String toString() {
            if (width == 0) {
                return "Bool";
            }
            String vector = "(_ BitVec " + width + ")";
            return index == 0 ? vector : "(Array (_ BitVec " + index + ") " + vector + ")";
        }
    }

    /** A term: a thing by its number, a constant, a name that stands for a term, or an application. */
    static final class Node {
        final String op;
        final Sort sort;
        final List<Node> kids;
        int thing = -1;
        BigInteger constant;
        int high;
        int low;
        String shown;

        Node(String op, Sort sort, Node... kids) {
            this.op = op;
            this.sort = sort;
            this.kids = Arrays.asList(kids);
        }

        String text() {
            if (shown != null) {
                return shown;
            }
            StringBuilder all = new StringBuilder("(");
            if (op.equals("extract")) {
                all.append("(_ extract ").append(high).append(' ').append(low).append(')');
            } else if (op.endsWith("_extend")) {
                all.append("(_ ").append(op).append(' ').append(high).append(')');
            } else {
                all.append(op);
            }
            for (Node kid : kids) {
                all.append(' ').append(kid.text());
            }
            return all.append(')').toString();
        }

        /** A vector or Bool is a list of one number. */
        List<BigInteger> worth(List<List<BigInteger>> things) {
            if (thing >= 0) {
                return thing < things.size() ? things.get(thing) : zeros(sort);
            }
            if (constant != null) {
                return List.of(constant);
            }
            List<List<BigInteger>> all = new ArrayList<>();
            for (Node kid : kids) {
                all.add(kid.worth(things));
            }
            switch (op) {
                case "name":
                    return all.get(0);
                case "ite":
                    return all.get(0).get(0).signum() != 0 ? all.get(1) : all.get(2);
                case "select":
                    return List.of(all.get(0).get(all.get(1).get(0).intValue()));
                case "store":
                    List<BigInteger> changed = new ArrayList<>(all.get(0));
                    changed.set(all.get(1).get(0).intValue(), all.get(2).get(0));
                    return changed;
                case "=":
                    return List.of(bit(Collections.frequency(all, all.get(0)) == all.size()));
                case "distinct":
                    return List.of(bit(all.stream().distinct().count() == all.size()));
                default:
                    List<BigInteger> numbers = new ArrayList<>();
                    all.forEach(each -> numbers.add(each.get(0)));
                    BigInteger result = number(numbers);
                    return List.of(result.mod(BigInteger.TWO.pow(sort.size())));
            }
        }

        private BigInteger number(List<BigInteger> a) {
            int width = kids.get(0).sort.size();
            BigInteger first = a.get(0);
            BigInteger all = first;
            switch (op) {
                case "not":
                case "bvnot":
                    return first.not();
                case "bvneg":
                    return first.negate();
                case "=>":
                    all = a.get(a.size() - 1);
                    for (int i = a.size() - 2; i >= 0; i--) {
                        all = bit(a.get(i).signum() == 0 || all.signum() != 0);
                    }
                    return all;
                case "concat":
                    for (int i = 1; i < a.size(); i++) {
                        all = all.shiftLeft(kids.get(i).sort.size()).or(a.get(i));
                    }
                    return all;
                case "extract":
                    return first.shiftRight(low);
                case "zero_extend":
                    return first;
                case "sign_extend":
                    return signed(first, width);
                default:
                    for (int i = 1; i < a.size(); i++) {
                        all = two(all, a.get(i), width);
                    }
                    return all;
            }
        }

        private BigInteger two(BigInteger a, BigInteger b, int width) {
            BigInteger sa = signed(a, width);
            BigInteger sb = signed(b, width);
            int by = b.min(BigInteger.valueOf(width)).intValue();
            boolean zero = b.signum() == 0;
            switch (op) {
                case "and": case "bvand": return a.and(b);
                case "or": case "bvor": return a.or(b);
                case "xor": case "bvxor": return a.xor(b);
                case "bvadd": return a.add(b);
                case "bvmul": return a.multiply(b).mod(BigInteger.TWO.pow(width));
                case "bvsub": return a.subtract(b);
                case "bvudiv": return zero ? BigInteger.ONE.negate() : a.divide(b);
                case "bvurem": return zero ? a : a.mod(b);
                case "bvsdiv": return zero ? BigInteger.valueOf(sa.signum() < 0 ? 1 : -1) : sa.divide(sb);
                case "bvsrem": return zero ? sa : sa.remainder(sb);
                case "bvshl": return a.shiftLeft(by);
                case "bvlshr": return a.shiftRight(by);
                case "bvashr": return sa.shiftRight(by);
                case "bvult": return bit(a.compareTo(b) < 0);
                case "bvule": return bit(a.compareTo(b) <= 0);
                case "bvugt": return bit(a.compareTo(b) > 0);
                case "bvuge": return bit(a.compareTo(b) >= 0);
                case "bvslt": return bit(sa.compareTo(sb) < 0);
                case "bvsle": return bit(sa.compareTo(sb) <= 0);
                case "bvsgt": return bit(sa.compareTo(sb) > 0);
                case "bvsge": return bit(sa.compareTo(sb) >= 0);
                default: throw new IllegalStateException(op);
            }
        }
    }

    private static BigInteger bit(boolean holds) {
        return holds ? BigInteger.ONE : BigInteger.ZERO;
    }

    private static BigInteger signed(BigInteger a, int width) {
        return a.testBit(width - 1) ? a.subtract(BigInteger.TWO.pow(width)) : a;
    }

    static List<BigInteger> zeros(Sort sort) {
        return Collections.nCopies(1 << sort.index(), BigInteger.ZERO);
    }

    final List<Sort> things = new ArrayList<>();
    final List<Node> names = new ArrayList<>();
    final List<Node> assertions = new ArrayList<>();
    private final Random random;
    private final int mostSize;
    private int constants;

    Problem(long seed, int mostSize) {
        random = new Random(seed);
        this.mostSize = mostSize;
    }

    int size() {
        return things.stream().mapToInt(Sort::size).sum();
    }

    /** The things' values of an interpretation by its number among all, in their order. */
    List<List<BigInteger>> interpretation(long number) {
        int rest = size();
        List<List<BigInteger>> all = new ArrayList<>();
        for (Sort sort : things) {
            List<BigInteger> cells = new ArrayList<>();
            int width = Math.max(1, sort.width());
            for (int cell = 0; cell < 1 << sort.index(); cell++) {
                rest -= width;
                cells.add(BigInteger.valueOf(number >> rest & (1L << width) - 1));
            }
            all.add(cells);
        }
        return all;
    }

    boolean holds(List<List<BigInteger>> values, Node supposed) {
        for (Node assertion : assertions) {
            if (assertion.worth(values).get(0).signum() == 0) {
                return false;
            }
        }
        return supposed == null || supposed.worth(values).get(0).signum() != 0;
    }

    /** The number of the least interpretation from a start on that makes all true, or -1. */
    long least(long start, Node supposed) {
        for (long number = start; number < 1L << size(); number++) {
            if (holds(interpretation(number), supposed)) {
                return number;
            }
        }
        return -1;
    }

    /** Some commands more, as text. */
    String grow(int commands, int depth) {
        StringBuilder text = new StringBuilder();
        for (int i = 0; i < commands; i++) {
            int kind = random.nextInt(10);
            if (kind < 4 || things.isEmpty()) {
                declare(text);
            } else if (kind < 6) {
                Sort sort = anySort();
                define(text, sort, term(sort, depth));
            } else {
                Node term = term(Sort.BOOL, depth);
                assertions.add(term);
                text.append("(assert ").append(term.text()).append(")\n");
            }
        }
        return text.toString();
    }

    private void declare(StringBuilder text) {
        Sort sort = anySort();
        if (size() + sort.size() > mostSize) {
            return;
        }
        Node node = new Node("thing", sort);
        node.thing = things.size();
        node.shown = "n" + names.size();
        things.add(sort);
        names.add(node);
        text.append("(declare-const ").append(node.shown).append(' ').append(sort).append(")");
    }

    private void define(StringBuilder text, Sort sort, Node term) {
        Node node = new Node("name", sort, term);
        node.shown = "n" + names.size();
        names.add(node);
        text.append("(define-fun ").append(node.shown).append(" () ").append(sort).append(' ');
        text.append(term.text()).append(") ; a remark (\n");
    }

    /** An array only where there is one already, or room for it. */
    private Sort anySort() {
        int kind = random.nextInt(8);
        if (kind < 2) {
            return Sort.BOOL;
        }
        if (kind < 6 || size() > 0) {
            return new Sort(0, 1 + random.nextInt(4));
        }
        return new Sort(1 + random.nextInt(2), 1 + random.nextInt(2));
    }

    private Node term(Sort sort, int depth) {
        List<Node> fitting = new ArrayList<>(names);
        fitting.removeIf(name -> !name.sort.equals(sort));
        if (sort.index() > 0) {
            return array(sort, depth, fitting);
        }
        if (depth <= 0 || random.nextInt(8) == 0) {
            return fitting.isEmpty() || random.nextInt(4) == 0 ? constant(sort) : pick(fitting);
        }
        if (random.nextInt(8) == 0) {
            return new Node("ite", sort, term(Sort.BOOL, depth - 1), term(sort, depth - 1), term(sort, depth - 1));
        }
        return sort.width() == 0 ? bool(depth - 1) : vector(sort, depth - 1);
    }

    private Node array(Sort sort, int depth, List<Node> fitting) {
        if (depth > 0 && random.nextInt(2) == 0) {
            Node index = term(new Sort(0, sort.index()), depth - 1);
            return new Node("store", sort, array(sort, depth - 1, fitting), index,
                term(new Sort(0, sort.width()), depth - 1));
        }
        return pick(fitting);
    }

    private Node bool(int depth) {
        switch (random.nextInt(6)) {
            case 0:
                return new Node("not", Sort.BOOL, term(Sort.BOOL, depth));
            case 1:
            case 2:
                return many(pick("and", "or", "xor", "=>"), Sort.BOOL, Sort.BOOL, depth);
            case 3:
                return many(pick("=", "distinct"), Sort.BOOL, oftenArray(), depth);
            default:
                Sort sort = new Sort(0, 1 + random.nextInt(5));
                return new Node(pick(COMPARED), Sort.BOOL, term(sort, depth), term(sort, depth));
        }
    }

    private Sort oftenArray() {
        List<Node> arrays = new ArrayList<>(names);
        arrays.removeIf(name -> name.sort.index() == 0);
        return arrays.isEmpty() || random.nextBoolean() ? anyVector() : pick(arrays).sort;
    }

    private Sort anyVector() {
        return random.nextInt(4) == 0 ? Sort.BOOL : new Sort(0, 1 + random.nextInt(5));
    }

    private Node vector(Sort sort, int depth) {
        int width = sort.width();
        switch (random.nextInt(7)) {
            case 0:
                return new Node(pick("bvnot", "bvneg"), sort, term(sort, depth));
            case 1:
            case 2:
                return many(pick(FOLDED), sort, sort, depth);
            case 3:
                return new Node(pick(PAIRED), sort, term(sort, depth), term(sort, depth));
            case 4:
                return reshaped(width, sort, depth);
            case 5:
                return selected(sort, depth);
            default:
                return extracted(width, sort, depth);
        }
    }

    private Node reshaped(int width, Sort sort, int depth) {
        if (width > 1 && random.nextBoolean()) {
            int part = 1 + random.nextInt(width - 1);
            return new Node("concat", sort, term(new Sort(0, part), depth), term(new Sort(0, width - part), depth));
        }
        int more = random.nextInt(width);
        Node node = new Node(pick("zero_extend", "sign_extend"), sort, term(new Sort(0, width - more), depth));
        node.high = more;
        return node;
    }

    private Node selected(Sort sort, int depth) {
        List<Node> arrays = new ArrayList<>(names);
        arrays.removeIf(name -> name.sort.index() == 0 || name.sort.width() != sort.width());
        if (arrays.isEmpty()) {
            return constant(sort);
        }
        Sort array = pick(arrays).sort;
        return new Node("select", sort, term(array, depth), term(new Sort(0, array.index()), depth));
    }

    private Node extracted(int width, Sort sort, int depth) {
        int wide = random.nextInt(5) == 0 ? 64 : Math.min(64, width + random.nextInt(4));
        Node node = new Node("extract", sort, term(new Sort(0, wide), depth));
        node.low = random.nextInt(wide - width + 1);
        node.high = node.low + width - 1;
        return node;
    }

    private Node many(String op, Sort result, Sort sort, int depth) {
        Node[] kids = new Node[2 + (random.nextInt(3) == 0 ? 1 + random.nextInt(2) : 0)];
        for (int i = 0; i < kids.length; i++) {
            kids[i] = term(sort, depth);
        }
        return new Node(op, result, kids);
    }

    private Node constant(Sort sort) {
        Node node = new Node("constant", sort);
        constants++;
        node.constant = new BigInteger(sort.size(), random);
        if (sort.width() == 0) {
            node.shown = node.constant.signum() == 0 ? "false" : "true";
        } else if (sort.width() % 4 == 0 && random.nextBoolean()) {
            String digits = node.constant.toString(16);
            String hex = "#x" + "0".repeat(sort.width() / 4 - digits.length()) + digits;
            node.shown = constants % 2 == 0 ? hex : "#x" + hex.substring(2).toUpperCase();
        } else {
            String digits = node.constant.toString(2);
            node.shown = "#b" + "0".repeat(sort.width() - digits.length()) + digits;
        }
        return node;
    }

    private String pick(String... from) {
        return from[random.nextInt(from.length)];
    }

    private Node pick(List<Node> from) {
        return from.get(random.nextInt(from.size()));
    }
}
