/**
 * Decides what texts assert about bit vectors and arrays: whether there are values of the declared
 * things that make all assertions true, and which are the least.
 *
 * An interpretation is held as one number of SIZE bits, the things in their order from its highest
 * bit on, and the cells of an array likewise: then a lesser number is a lesser interpretation.
 */
public final class VectorSolver {
    /** There is none. */
    public static final int NONE = -1;

    // The document's limits.
    private static final int TEXT_BYTES = 65536;
    private static final int FED_BYTES = 20;
    private static final int MOST_TERMS = 2000;
    private static final int MOST_NAMES = 500;
    private static final int NAME_BYTES = 65536;
    private static final int MOST_ASSERTIONS = 500;
    private static final int MOST_BOUND = 16;
    private static final int MOST_ARGUMENTS = 40;
    private static final int MOST_OPEN = 60;
    private static final int MOST_WEIGHT = 100000;
    private static final int MOST_WIDTH = 64;
    private static final int MOST_INDEX_WIDTH = 6;
    private static final int MOST_SIZE = 16;
    private static final int MOST_EFFORT = 200000000;

    // The kinds of faults.
    private static final int FAULT_SIGN = 1;
    private static final int FAULT_FORM = 2;
    private static final int FAULT_END = 3;
    private static final int FAULT_OTHER = 4;
    private static final int FAULT_NAME = 5;
    private static final int FAULT_TAKEN = 6;
    private static final int FAULT_NUMBER = 7;
    private static final int FAULT_MANY = 8;
    private static final int FAULT_SORTS = 9;
    private static final int FAULT_DEEP = 10;
    private static final int FAULT_FULL = 11;
    private static final int FAULT_HEAVY = 12;

    // What a word or bracket is.
    private static final int OPEN = 0;
    private static final int CLOSE = 1;
    private static final int NUMERAL = 2;
    private static final int BINARY = 3;
    private static final int HEX = 4;
    private static final int SYMBOL = 5;

    /** The reserved words; the numbers below are their places in this row. */
    private static final String RESERVED = "declare-const define-fun assert Bool _ BitVec Array true false let extract zero_extend sign_extend not and or xor => ite = distinct bvnot bvneg bvand bvor bvxor bvadd bvmul bvsub bvudiv bvurem bvsdiv bvsrem bvshl bvlshr bvashr bvult bvule bvugt bvuge bvslt bvsle bvsgt bvsge concat select store ";
    private static final int DECLARE_CONST = 0;
    private static final int DEFINE_FUN = 1;
    private static final int ASSERT = 2;
    private static final int BOOL = 3;
    private static final int UNDERSCORE = 4;
    private static final int BIT_VEC = 5;
    private static final int ARRAY = 6;
    private static final int TRUE = 7;
    private static final int FALSE = 8;
    private static final int LET = 9;
    private static final int EXTRACT = 10;
    private static final int ZERO_EXTEND = 11;
    private static final int SIGN_EXTEND = 12;
    private static final int NOT = 13;
    private static final int AND = 14;
    private static final int OR = 15;
    private static final int XOR = 16;
    private static final int IMPLIES = 17;
    private static final int ITE = 18;
    private static final int EQUAL = 19;
    private static final int DISTINCT = 20;
    private static final int BVNOT = 21;
    private static final int BVNEG = 22;
    private static final int BVAND = 23;
    private static final int BVOR = 24;
    private static final int BVXOR = 25;
    private static final int BVADD = 26;
    private static final int BVMUL = 27;
    private static final int BVSUB = 28;
    private static final int BVUDIV = 29;
    private static final int BVUREM = 30;
    private static final int BVSDIV = 31;
    private static final int BVSREM = 32;
    private static final int BVSHL = 33;
    private static final int BVLSHR = 34;
    private static final int BVASHR = 35;
    private static final int BVULT = 36;
    private static final int BVULE = 37;
    private static final int BVUGT = 38;
    private static final int BVUGE = 39;
    private static final int BVSLT = 40;
    private static final int BVSLE = 41;
    private static final int BVSGT = 42;
    private static final int BVSGE = 43;
    private static final int CONCAT = 44;
    private static final int SELECT = 45;
    private static final int STORE = 46;
    // Terms that are no applications.
    private static final int THING = 47;
    private static final int CONSTANT = 48;

    private final Text text;
    private final Book book;
    private final Reader reader;
    private final Search search;
    /** Apart from the one with which the search works, so that it sees nothing of its doings. */
    private final Evaluator judge;
    private int effortLeft;
    private int found;
    private int foundSize;
    private int foundThings;
    private int falseOnes;

    public VectorSolver() {
        text = new Text();
        book = new Book();
        reader = new Reader(text, book);
        search = new Search(book);
        judge = new Evaluator(book);
        effortLeft = MOST_EFFORT;
        found = NONE;
    }

    public int feed(int a, int b, int c, int d, int e) throws IllegalStateException {
        if (text.length > TEXT_BYTES - FED_BYTES) {
            throw new IllegalStateException("the text would have more than 65536 bytes");
        }
        text.append(a);
        text.append(b);
        text.append(c);
        text.append(d);
        text.append(e);
        return text.length;
    }

    public int trim(int n) throws IllegalArgumentException {
        if (n < 0 || n > FED_BYTES || n > text.length) {
            throw new IllegalArgumentException("so many bytes can't go");
        }
        text.length -= n;
        return text.length;
    }

    public int read() {
        return reader.wholeText();
    }

    public int fault(int what) throws IllegalArgumentException {
        switch (what) {
            case 0:
                return text.faultKind;
            case 1:
                return text.faultPlace;
            default:
                throw new IllegalArgumentException("a fault has a kind and a place");
        }
    }

    public boolean check() throws IllegalStateException {
        askForSearch();
        return searchFrom(0, NONE);
    }

    public boolean more() throws IllegalStateException {
        askForSearch();
        return searchFrom(found == NONE ? 0 : grownFound() + 1, NONE);
    }

    public boolean suppose(int name) throws IllegalArgumentException, IllegalStateException {
        int term = termOfName(name);
        if (book.terms.sort[term] != Sorts.BOOL) {
            throw new IllegalArgumentException("the name is no Bool");
        }
        askForSearch();
        return searchFrom(0, term);
    }

    public long value(int thing, int cell) throws IllegalArgumentException, IllegalStateException {
        int sort = sortOfThing(thing);
        if (cell < 0 || cell >= Sorts.cells(sort)) {
            throw new IllegalArgumentException("there is no such cell");
        }
        if (found == NONE) {
            throw new IllegalStateException("none is found");
        }
        if (thing >= foundThings) {
            return 0L;
        }
        long whole = found >>> book.shift(thing, foundSize);
        return Sorts.cell(sort, whole, cell);
    }

    public long named(int name) throws IllegalArgumentException, IllegalStateException {
        int term = termOfName(name);
        if (Sorts.isArray(book.terms.sort[term])) {
            throw new IllegalArgumentException("the name is an array");
        }
        if (found == NONE || book.size() > MOST_SIZE) {
            throw new IllegalStateException("none is found, or too much is declared");
        }
        judge.evaluate(grownFound(), book.size(), term);
        return judge.worth[term];
    }

    public int missed() {
        return found == NONE ? 0 : falseOnes;
    }

    public int refused() {
        return search.refusedOnes;
    }

    public int thing(int thing, int what) throws IllegalArgumentException {
        int sort = sortOfThing(thing);
        switch (what) {
            case 0:
                return Sorts.kind(sort);
            case 1:
                return Sorts.width(sort);
            case 2:
                return Sorts.indexWidth(sort);
            case 3:
                return book.thingName[thing];
            default:
                throw new IllegalArgumentException("nothing such is known of a thing");
        }
    }

    public int count(int what) throws IllegalArgumentException {
        switch (what) {
            case 0:
                return book.terms.made;
            case 1:
                return book.names;
            case 2:
                return book.assertions;
            case 3:
                return text.length;
            case 4:
                return book.things;
            case 5:
                return book.size();
            case 6:
                return book.terms.weight;
            default:
                throw new IllegalArgumentException("nothing such is counted");
        }
    }

    private int termOfName(int name) throws IllegalArgumentException {
        if (name < 0 || name >= book.names) {
            throw new IllegalArgumentException("there is no such name");
        }
        return book.nameTerm[name];
    }

    private int sortOfThing(int thing) throws IllegalArgumentException {
        if (thing < 0 || thing >= book.things) {
            throw new IllegalArgumentException("there is no such thing");
        }
        return book.terms.sort[book.thingTerm[thing]];
    }

    private void askForSearch() throws IllegalStateException {
        if (book.size() > MOST_SIZE || effort() > effortLeft) {
            throw new IllegalStateException("too much is declared, or the effort is used up");
        }
    }

    /** Asked only where SIZE is no more than 16, so that it stays below 2 to the 27. */
    private int effort() {
        return book.terms.made << book.size();
    }

    /** What was found, with 0 for the things that were declared behind it. */
    private int grownFound() {
        return found << (book.size() - foundSize);
    }

    private boolean searchFrom(int start, int supposed) {
        effortLeft -= effort();
        foundSize = book.size();
        foundThings = book.things;
        found = search.least(start, foundSize, supposed);
        if (found != NONE) {
            falseOnes = countFalse(supposed);
        }
        return found != NONE;
    }

    private int countFalse(int supposed) {
        judge.evaluate(found, foundSize, book.terms.made - 1);
        int many = supposed != NONE && judge.worth[supposed] == 0L ? 1 : 0;
        for (int i = 0; i < book.assertions; i++) {
            if (judge.worth[book.asserted[i]] == 0L) {
                many++;
            }
        }
        return many;
    }

    /** A sort is one number: 0 a Bool, 1 .. 64 a vector, 128 times the index width more an array. */
    private static final class Sorts {
        static final int BOOL = 0;
        private static final int INDEX_SHIFT = 7;

        static int array(int indexWidth, int width) {
            return (indexWidth << INDEX_SHIFT) + width;
        }

        static boolean isArray(int sort) {
            return indexWidth(sort) > 0;
        }

        static boolean isVector(int sort) {
            return sort > BOOL && !isArray(sort);
        }

        static int kind(int sort) {
            return sort == BOOL ? 0 : isArray(sort) ? 2 : 1;
        }

        static int width(int sort) {
            return sort & (1 << INDEX_SHIFT) - 1;
        }

        static int indexWidth(int sort) {
            return sort >> INDEX_SHIFT;
        }

        static int cells(int sort) {
            return 1 << indexWidth(sort);
        }

        static int size(int sort) {
            return sort == BOOL ? 1 : width(sort) << indexWidth(sort);
        }

        static long mask(int sort) {
            return Words.mask(size(sort));
        }

        /** How many bits of an array that is held as one number stand below a cell. */
        static int cellShift(int sort, long index) {
            return (cells(sort) - 1 - (int) index) * width(sort);
        }

        static long cellMask(int sort) {
            return Words.mask(size(sort) >> indexWidth(sort));
        }

        static long cell(int sort, long whole, long index) {
            return whole >>> cellShift(sort, index) & cellMask(sort);
        }
    }

    /** Numbers of up to 64 bits without signs, each held in the lowest bits of a long. */
    private static final class Words {
        static long mask(int width) {
            return width >= 64 ? -1L : (1L << width) - 1L;
        }

        /** The number with a sign that the lowest bits are. */
        static long signed(long a, int width) {
            int rest = 64 - width;
            return a << rest >> rest;
        }

        static boolean less(long a, long b) {
            return a + Long.MIN_VALUE < b + Long.MIN_VALUE;
        }

        /** All bits from the lowest one up to the highest that is 1. */
        static long upToHighest(long a) {
            long all = a | a >>> 1;
            all |= all >>> 2;
            all |= all >>> 4;
            all |= all >>> 8;
            all |= all >>> 16;
            return all | all >>> 32;
        }

        static long highest(long a) {
            long all = upToHighest(a);
            return all ^ all >>> 1;
        }

        /** The bits below the lowest one that is 0. */
        static long lowestRun(long a) {
            return (~a & a + 1L) - 1L;
        }

        static int trailingZeros(int a) {
            return Integer.bitCount((a & -a) - 1);
        }

        /** Of two arguments, not yet cut to the width. */
        static long two(int op, long a, long b, int width) {
            switch (op) {
                case BVSUB:
                    return a - b;
                case BVUDIV:
                    return quotient(a, b);
                case BVUREM:
                    return a - quotient(a, b) * b;
                case BVSDIV:
                    return signedQuotient(signed(a, width), signed(b, width));
                case BVSREM:
                    return signedRest(signed(a, width), signed(b, width));
                case BVSHL:
                    return less(b, width) ? a << (int) b : 0L;
                case BVLSHR:
                    return less(b, width) ? a >>> (int) b : 0L;
                case BVASHR:
                    return signed(a, width) >> signShift(b, width);
                default:
                    return 0L;
            }
        }

        /** From the width on a shift that brings in the highest bit has no other effect. */
        static int signShift(long by, int width) {
            return less(by, width) ? (int) by : width - 1;
        }

        private static long quotient(long a, long b) {
            if (b == 0L) {
                return -1L;
            }
            if (b < 0L) {
                return less(a, b) ? 0L : 1L;
            }
            // Java divides with signs: half of the first has none, what that loses is put right behind.
            long nearly = (a >>> 1) / b << 1;
            return less(a - nearly * b, b) ? nearly : nearly + 1L;
        }

        private static long signedQuotient(long a, long b) {
            if (b == 0L) {
                return a < 0L ? 1L : -1L;
            }
            return a / b;
        }

        private static long signedRest(long a, long b) {
            return b == 0L ? a : a % b;
        }

        static boolean compare(int op, long a, long b, int width) {
            long flip = flipped(op, width);
            switch (op) {
                case BVULT:
                case BVSLT:
                    return less(a ^ flip, b ^ flip);
                case BVULE:
                case BVSLE:
                    return !less(b ^ flip, a ^ flip);
                case BVUGT:
                case BVSGT:
                    return less(b ^ flip, a ^ flip);
                default:
                    return !less(a ^ flip, b ^ flip);
            }
        }

        /** Numbers with signs are in the order of those without, once the highest bit is turned. */
        static long flipped(int op, int width) {
            return op >= BVSLT ? 1L << width - 1 : 0L;
        }
    }

    /** The terms in the order in which they were made. */
    private static final class Terms {
        final int[] op = new int[MOST_TERMS];
        final int[] sort = new int[MOST_TERMS];
        /** The arguments of t stand in args from first[t] on, up to first[t + 1]. */
        final int[] first = new int[MOST_TERMS + 1];
        final int[] args = new int[MOST_TERMS * MOST_ARGUMENTS];
        /** Of an extract its lowest bit, of a thing its number. */
        final int[] low = new int[MOST_TERMS];
        final long[] bits = new long[MOST_TERMS];
        /** The least number among a term and all that it is made of, things aside. */
        final int[] lowest = new int[MOST_TERMS];
        int made;
        int weight;

        boolean isFull() {
            return made >= MOST_TERMS;
        }

        /** Asked for only where it is not full. */
        int add(int itsOp, int itsSort) {
            int t = made;
            op[t] = itsOp;
            sort[t] = itsSort;
            low[t] = 0;
            bits[t] = 0L;
            lowest[t] = t;
            first[t + 1] = first[t];
            made = t + 1;
            return t;
        }

        /** For the last term alone. */
        void addArgument(int t, int argument) {
            int end = first[t + 1];
            args[end] = argument;
            first[t + 1] = end + 1;
            if (op[argument] != THING && lowest[argument] < lowest[t]) {
                lowest[t] = lowest[argument];
            }
        }

        int argument(int t, int which) {
            return args[first[t] + which];
        }

        int many(int t) {
            return first[t + 1] - first[t];
        }

        /** Marks a term and all that it is made of, things aside. */
        void markCone(int goal, byte[] marked) {
            marked[goal] = 1;
            for (int t = goal; t >= lowest[goal]; t--) {
                if (marked[t] != 0) {
                    markArguments(t, marked);
                }
            }
        }

        private void markArguments(int t, byte[] marked) {
            for (int i = first[t]; i < first[t + 1]; i++) {
                if (op[args[i]] != THING) {
                    marked[args[i]] = 1;
                }
            }
        }
    }

    /** What all texts said: terms, names, things, assertions. */
    private static final class Book {
        final Terms terms = new Terms();
        final byte[] letters = new byte[NAME_BYTES];
        /** The letters of name n stand from nameFirst[n] on, up to nameFirst[n + 1]. */
        final int[] nameFirst = new int[MOST_NAMES + 1];
        final int[] nameTerm = new int[MOST_NAMES];
        int names;
        final int[] thingTerm = new int[MOST_NAMES];
        final int[] thingName = new int[MOST_NAMES];
        /** The size of all things before one. */
        final int[] before = new int[MOST_NAMES + 1];
        int things;
        final int[] asserted = new int[MOST_ASSERTIONS];
        int assertions;
        private final int[] kept = new int[5];

        int size() {
            return before[things];
        }

        /** How many bits of an interpretation of a size stand below those of a thing. */
        int shift(int thing, int size) {
            return size - before[thing + 1];
        }

        void keep() {
            kept[0] = terms.made;
            kept[1] = terms.weight;
            kept[2] = names;
            kept[3] = things;
            kept[4] = assertions;
        }

        void goBack() {
            terms.made = kept[0];
            terms.weight = kept[1];
            names = kept[2];
            things = kept[3];
            assertions = kept[4];
        }

        boolean hasRoomForName(int bytes) {
            return names < MOST_NAMES && bytes <= NAME_BYTES - nameFirst[names];
        }

        /** Asked for only where there is room. */
        void addName(Text from, int begin, int end, int term) {
            int at = nameFirst[names];
            for (int i = begin; i < end; i++) {
                letters[at] = from.bytes[i];
                at++;
            }
            nameTerm[names] = term;
            names++;
            nameFirst[names] = at;
        }

        /** For a term that gets the next name: there are never more things than names. */
        void addThing(int term) {
            terms.low[term] = things;
            thingTerm[things] = term;
            thingName[things] = names;
            before[things + 1] = before[things] + Sorts.size(terms.sort[term]);
            things++;
        }

        int findName(Text from, int begin, int end) {
            for (int n = 0; n < names; n++) {
                int length = nameFirst[n + 1] - nameFirst[n];
                if (length == end - begin && isName(n, from, begin)) {
                    return n;
                }
            }
            return NONE;
        }

        private boolean isName(int n, Text from, int begin) {
            int at = begin;
            for (int i = nameFirst[n]; i < nameFirst[n + 1]; i++) {
                if (letters[i] != from.bytes[at]) {
                    return false;
                }
                at++;
            }
            return true;
        }
    }

    /** The text, as a row of words and brackets of which one at a time is looked at. */
    private static final class Text {
        final byte[] bytes = new byte[TEXT_BYTES];
        int length;
        int faultKind;
        int faultPlace = NONE;
        /** Of the word or bracket that was read last: what it is, and where. */
        int kind;
        int begin;
        int end;
        /** Its number among the reserved words. */
        int reserved;
        private int open;

        /** Asked for only where there is room. */
        void append(int four) {
            for (int shift = 24; shift >= 0; shift -= 8) {
                bytes[length] = (byte) (four >> shift);
                length++;
            }
        }

        void start() {
            faultKind = 0;
            faultPlace = NONE;
            end = 0;
            open = 0;
        }

        int fail(int itsKind, int place) throws IllegalStateException {
            faultKind = itsKind;
            faultPlace = place;
            throw new IllegalStateException("the text has a fault");
        }

        /** Whether nothing but blanks is left. */
        boolean isOver() {
            skipBlanks();
            return end >= length;
        }

        void next() throws IllegalStateException {
            if (isOver()) {
                fail(FAULT_END, length);
                return;
            }
            begin = end;
            reserved = NONE;
            int sign = bytes[end];
            if (sign == '(' || sign == ')') {
                bracket(sign);
            } else if (isWordSign(sign)) {
                word();
            } else {
                fail(FAULT_SIGN, begin);
            }
        }

        private void bracket(int sign) throws IllegalStateException {
            if (sign == '(' && open == MOST_OPEN) {
                fail(FAULT_DEEP, begin);
            }
            kind = sign == '(' ? OPEN : CLOSE;
            open += sign == '(' ? 1 : -1;
            end++;
        }

        private void word() throws IllegalStateException {
            while (end < length && isWordSign(bytes[end])) {
                end++;
            }
            kind = kindOfWord();
            if (kind == NONE) {
                fail(FAULT_FORM, begin);
            }
            if (kind == SYMBOL) {
                reserved = findReserved();
            }
        }

        private void skipBlanks() {
            boolean remark = false;
            while (end < length) {
                int sign = bytes[end];
                if (sign == 10) {
                    remark = false;
                } else if (sign == ';') {
                    remark = true;
                } else if (!remark && sign != 9 && sign != 13 && sign != 32) {
                    return;
                }
                end++;
            }
        }

        private static boolean isDigit(int sign) {
            return sign >= '0' && sign <= '9';
        }

        private static boolean isWordSign(int sign) {
            if (isDigit(sign) || sign >= 'a' && sign <= 'z' || sign >= 'A' && sign <= 'Z') {
                return true;
            }
            return sign > 0 && "~!@$%^&*_-+=<>.?/#".indexOf((char) sign) >= 0;
        }

        private int kindOfWord() {
            int sign = bytes[begin];
            if (isDigit(sign)) {
                boolean single = end - begin == 1;
                return (single || sign != '0') && hasDigits(begin, 10) ? NUMERAL : NONE;
            }
            if (sign != '#') {
                return SYMBOL;
            }
            int digits = end - begin - 2;
            if (digits < 1) {
                return NONE;
            }
            int base = bytes[begin + 1];
            if (base == 'b') {
                return digits <= MOST_WIDTH && hasDigits(begin + 2, 2) ? BINARY : NONE;
            }
            return base == 'x' && digits <= MOST_WIDTH / 4 && hasDigits(begin + 2, 16) ? HEX : NONE;
        }

        private boolean hasDigits(int from, int base) {
            for (int i = from; i < end; i++) {
                int digit = digit(bytes[i]);
                if (digit < 0 || digit >= base) {
                    return false;
                }
            }
            return true;
        }

        private static int digit(int sign) {
            if (isDigit(sign)) {
                return sign - '0';
            }
            if (sign >= 'a' && sign <= 'f') {
                return sign - 'a' + 10;
            }
            return sign >= 'A' && sign <= 'F' ? sign - 'A' + 10 : NONE;
        }

        /** What a numeral is, or more than an int can be. */
        long numeral() {
            long sum = 0L;
            for (int i = begin; i < end && sum <= Integer.MAX_VALUE; i++) {
                sum = 10L * sum + digit(bytes[i]);
            }
            return sum;
        }

        /** What a binary or hex word is. */
        long constant() {
            int shift = kind == BINARY ? 1 : 4;
            long sum = 0L;
            for (int i = begin + 2; i < end; i++) {
                sum = sum << shift | digit(bytes[i]);
            }
            return sum;
        }

        int constantWidth() {
            return (end - begin - 2) * (kind == BINARY ? 1 : 4);
        }

        private int findReserved() {
            int number = 0;
            int from = 0;
            for (int i = 0; i < RESERVED.length(); i++) {
                if (RESERVED.charAt(i) == ' ') {
                    if (i - from == end - begin && isReserved(from)) {
                        return number;
                    }
                    number++;
                    from = i + 1;
                }
            }
            return NONE;
        }

        private boolean isReserved(int from) {
            for (int i = begin; i < end; i++) {
                if (bytes[i] != RESERVED.charAt(from + i - begin)) {
                    return false;
                }
            }
            return true;
        }

        boolean isSame(int from, int to, int otherFrom, int otherTo) {
            if (to - from != otherTo - otherFrom) {
                return false;
            }
            for (int i = from; i < to; i++) {
                if (bytes[i] != bytes[otherFrom + i - from]) {
                    return false;
                }
            }
            return true;
        }
    }

    /** Reads the commands of a text into the book. */
    private static final class Reader {
        private final Text text;
        private final Book book;
        private final Terms terms;
        /** The arguments of all applications that are just being read. */
        private final int[] stack = new int[MOST_OPEN * MOST_ARGUMENTS];
        private int top;
        private final int[] boundBegin = new int[MOST_BOUND];
        private final int[] boundEnd = new int[MOST_BOUND];
        private final int[] boundTerm = new int[MOST_BOUND];
        /** Not while the bindings of its own let are being read. */
        private final boolean[] boundShown = new boolean[MOST_BOUND];
        private int bound;
        /** The numerals of the last ( _ .. ) that was read. */
        private int high;
        private int low;

        Reader(Text itsText, Book itsBook) {
            text = itsText;
            book = itsBook;
            terms = itsBook.terms;
        }

        int wholeText() {
            text.start();
            book.keep();
            top = 0;
            bound = 0;
            int many = NONE;
            try {
                many = commands();
            } catch (IllegalStateException e) {
                book.goBack();
            }
            text.length = 0;
            return many;
        }

        private int commands() throws IllegalStateException {
            int many = 0;
            while (many < TEXT_BYTES && !text.isOver()) {
                command();
                many++;
            }
            return many;
        }

        private void command() throws IllegalStateException {
            expect(OPEN);
            text.next();
            switch (text.reserved) {
                case DECLARE_CONST:
                    declare();
                    break;
                case DEFINE_FUN:
                    define();
                    break;
                case ASSERT:
                    affirm();
                    break;
                default:
                    text.fail(FAULT_OTHER, text.begin);
            }
            expect(CLOSE);
        }

        private void expect(int kind) throws IllegalStateException {
            text.next();
            if (text.kind != kind) {
                text.fail(FAULT_OTHER, text.begin);
            }
        }

        private void expectReserved(int reserved) throws IllegalStateException {
            text.next();
            if (text.reserved != reserved) {
                text.fail(FAULT_OTHER, text.begin);
            }
        }

        private void declare() throws IllegalStateException {
            newName();
            int begin = text.begin;
            int end = text.end;
            int sort = sort();
            int term = make(begin, THING, sort, Sorts.size(sort));
            book.addThing(term);
            book.addName(text, begin, end, term);
        }

        /** The name is added when no term can use it any more: it must not stand in its own. */
        private void define() throws IllegalStateException {
            newName();
            int begin = text.begin;
            int end = text.end;
            expect(OPEN);
            expect(CLOSE);
            int sort = sort();
            text.next();
            int term = termOfSort(sort);
            book.addName(text, begin, end, term);
        }

        private void affirm() throws IllegalStateException {
            text.next();
            int begin = text.begin;
            int term = termOfSort(Sorts.BOOL);
            if (book.assertions >= MOST_ASSERTIONS) {
                text.fail(FAULT_FULL, begin);
                return;
            }
            book.asserted[book.assertions] = term;
            book.assertions++;
        }

        private void newName() throws IllegalStateException {
            expect(SYMBOL);
            if (text.reserved != NONE || book.findName(text, text.begin, text.end) != NONE) {
                text.fail(FAULT_TAKEN, text.begin);
            }
            if (!book.hasRoomForName(text.end - text.begin)) {
                text.fail(FAULT_FULL, text.begin);
            }
        }

        private int sort() throws IllegalStateException {
            text.next();
            if (text.reserved == BOOL) {
                return Sorts.BOOL;
            }
            if (text.kind != OPEN) {
                return text.fail(FAULT_OTHER, text.begin);
            }
            text.next();
            if (text.reserved == UNDERSCORE) {
                return restOfVector(MOST_WIDTH);
            }
            if (text.reserved != ARRAY) {
                return text.fail(FAULT_OTHER, text.begin);
            }
            int indexWidth = vector(MOST_INDEX_WIDTH);
            int width = vector(MOST_WIDTH);
            expect(CLOSE);
            return Sorts.array(indexWidth, width);
        }

        private int vector(int most) throws IllegalStateException {
            expect(OPEN);
            expectReserved(UNDERSCORE);
            return restOfVector(most);
        }

        private int restOfVector(int most) throws IllegalStateException {
            expectReserved(BIT_VEC);
            int width = numeral();
            if (width < 1 || width > most) {
                return text.fail(FAULT_NUMBER, text.begin);
            }
            expect(CLOSE);
            return width;
        }

        private int numeral() throws IllegalStateException {
            expect(NUMERAL);
            long number = text.numeral();
            if (number > Integer.MAX_VALUE) {
                return text.fail(FAULT_NUMBER, text.begin);
            }
            return (int) number;
        }

        private int termOfSort(int sort) throws IllegalStateException {
            int begin = text.begin;
            int term = term();
            if (terms.sort[term] != sort) {
                return text.fail(FAULT_SORTS, begin);
            }
            return term;
        }

        /** The term that begins with what was read last; as deep as brackets may be open. */
        private int term() throws IllegalStateException {
            switch (text.kind) {
                case SYMBOL:
                    return symbolTerm();
                case BINARY:
                case HEX:
                    return constantTerm(text.constantWidth(), text.constant());
                case OPEN:
                    return bracketTerm();
                default:
                    return text.fail(FAULT_OTHER, text.begin);
            }
        }

        private int symbolTerm() throws IllegalStateException {
            if (text.reserved == TRUE || text.reserved == FALSE) {
                return constantTerm(Sorts.BOOL, text.reserved == TRUE ? 1L : 0L);
            }
            for (int i = bound - 1; i >= 0; i--) {
                if (boundShown[i] && isBound(i)) {
                    return boundTerm[i];
                }
            }
            int name = book.findName(text, text.begin, text.end);
            return name == NONE ? text.fail(FAULT_NAME, text.begin) : book.nameTerm[name];
        }

        private boolean isBound(int which) {
            return text.isSame(text.begin, text.end, boundBegin[which], boundEnd[which]);
        }

        private int constantTerm(int sort, long bits) throws IllegalStateException {
            int term = make(text.begin, CONSTANT, sort, Sorts.size(sort));
            terms.bits[term] = bits;
            return term;
        }

        private int bracketTerm() throws IllegalStateException {
            int begin = text.begin;
            int op = operator();
            if (op == LET) {
                return let();
            }
            int itsHigh = high;
            int itsLow = low;
            int base = top;
            text.next();
            for (int many = 0; many <= MOST_ARGUMENTS && text.kind != CLOSE; many++) {
                int argument = term();
                if (many == MOST_ARGUMENTS) {
                    return text.fail(FAULT_FULL, begin);
                }
                stack[top] = argument;
                top++;
                text.next();
            }
            if (!fitsMany(op, top - base)) {
                return text.fail(FAULT_MANY, begin);
            }
            high = itsHigh;
            low = itsLow;
            int term = apply(begin, op, base);
            top = base;
            return term;
        }

        private int operator() throws IllegalStateException {
            text.next();
            if (text.kind == OPEN) {
                return indexedOperator();
            }
            if (text.reserved < NOT && text.reserved != LET) {
                return text.fail(FAULT_OTHER, text.begin);
            }
            return text.reserved;
        }

        private int indexedOperator() throws IllegalStateException {
            expectReserved(UNDERSCORE);
            text.next();
            int op = text.reserved;
            if (op < EXTRACT || op > SIGN_EXTEND) {
                return text.fail(FAULT_OTHER, text.begin);
            }
            high = numeral();
            low = op == EXTRACT ? numeral() : 0;
            if (low > high) {
                return text.fail(FAULT_NUMBER, text.begin);
            }
            expect(CLOSE);
            return op;
        }

        private static boolean fitsMany(int op, int many) {
            switch (op) {
                case NOT:
                case BVNOT:
                case BVNEG:
                case EXTRACT:
                case ZERO_EXTEND:
                case SIGN_EXTEND:
                    return many == 1;
                case ITE:
                case STORE:
                    return many == 3;
                case AND:
                case OR:
                case XOR:
                case IMPLIES:
                case EQUAL:
                case DISTINCT:
                case BVAND:
                case BVOR:
                case BVXOR:
                case BVADD:
                case BVMUL:
                case CONCAT:
                    return many >= 2;
                default:
                    return many == 2;
            }
        }

        private int apply(int begin, int op, int base) throws IllegalStateException {
            int sort = sortOfResult(op, base);
            if (sort == NONE) {
                return text.fail(FAULT_SORTS, begin);
            }
            int weight = weigh(op, sort, sortAt(base), top - base);
            int term = make(begin, op, sort, weight);
            terms.low[term] = low;
            for (int i = base; i < top; i++) {
                terms.addArgument(term, stack[i]);
            }
            return term;
        }

        private int make(int begin, int op, int sort, int weight) throws IllegalStateException {
            if (terms.isFull()) {
                return text.fail(FAULT_FULL, begin);
            }
            if (weight > MOST_WEIGHT - terms.weight) {
                return text.fail(FAULT_HEAVY, begin);
            }
            terms.weight += weight;
            return terms.add(op, sort);
        }

        private int sortAt(int place) {
            return terms.sort[stack[place]];
        }

        /** Of as many arguments as fit; NONE if their sorts don't, or it were too wide. */
        private int sortOfResult(int op, int base) {
            int first = sortAt(base);
            switch (op) {
                case NOT:
                case AND:
                case OR:
                case XOR:
                case IMPLIES:
                    return first == Sorts.BOOL && isOneSort(base) ? Sorts.BOOL : NONE;
                case EQUAL:
                case DISTINCT:
                    return isOneSort(base) ? Sorts.BOOL : NONE;
                case ITE:
                    return first == Sorts.BOOL && isOneSort(base + 1) ? sortAt(base + 1) : NONE;
                case CONCAT:
                    return sortOfConcat(base);
                case SELECT:
                case STORE:
                    return sortOfArrayUse(op, base);
                case EXTRACT:
                    return Sorts.isVector(first) && high < first ? high - low + 1 : NONE;
                case ZERO_EXTEND:
                case SIGN_EXTEND:
                    return Sorts.isVector(first) && high <= MOST_WIDTH - first ? first + high : NONE;
                default:
                    if (!Sorts.isVector(first) || !isOneSort(base)) {
                        return NONE;
                    }
                    return op >= BVULT ? Sorts.BOOL : first;
            }
        }

        private boolean isOneSort(int from) {
            for (int i = from + 1; i < top; i++) {
                if (sortAt(i) != sortAt(from)) {
                    return false;
                }
            }
            return true;
        }

        private int sortOfConcat(int base) {
            int width = 0;
            for (int i = base; i < top; i++) {
                if (!Sorts.isVector(sortAt(i))) {
                    return NONE;
                }
                width += sortAt(i);
            }
            return width <= MOST_WIDTH ? width : NONE;
        }

        private int sortOfArrayUse(int op, int base) {
            int array = sortAt(base);
            if (!Sorts.isArray(array) || sortAt(base + 1) != Sorts.indexWidth(array)) {
                return NONE;
            }
            if (op == SELECT) {
                return Sorts.width(array);
            }
            return sortAt(base + 2) == Sorts.width(array) ? array : NONE;
        }

        /** By its own sort, that of its first argument, and how many it has. */
        private static int weigh(int op, int sort, int firstSort, int many) {
            int s = Sorts.size(firstSort);
            switch (op) {
                case NOT:
                case BVNOT:
                    return s;
                case AND:
                case OR:
                case XOR:
                case IMPLIES:
                case BVAND:
                case BVOR:
                case BVXOR:
                    return 4 * s * (many - 1);
                case ITE:
                    return 4 * Sorts.size(sort);
                case EQUAL:
                    return 5 * s * (many - 1);
                case DISTINCT:
                    return 5 * s * many * (many - 1);
                case BVADD:
                    return 10 * s * (many - 1);
                case BVMUL:
                    return 14 * s * s * (many - 1);
                case BVUDIV:
                case BVUREM:
                    return 16 * s * s + 32 * s;
                case BVSDIV:
                case BVSREM:
                    return 16 * s * s + 80 * s;
                case BVSHL:
                case BVLSHR:
                case BVASHR:
                    return 30 * s;
                case SELECT:
                case STORE:
                    return 8 * s;
                case CONCAT:
                case EXTRACT:
                case ZERO_EXTEND:
                case SIGN_EXTEND:
                    return Sorts.size(sort);
                default:
                    return 10 * s;
            }
        }

        private int let() throws IllegalStateException {
            int base = bound;
            expect(OPEN);
            expect(OPEN);
            for (int many = 0; many <= MOST_BOUND && text.kind == OPEN; many++) {
                bind(base);
                text.next();
            }
            if (text.kind != CLOSE) {
                return text.fail(FAULT_OTHER, text.begin);
            }
            for (int i = base; i < bound; i++) {
                boundShown[i] = true;
            }
            text.next();
            int term = term();
            bound = base;
            expect(CLOSE);
            return term;
        }

        private void bind(int base) throws IllegalStateException {
            expect(SYMBOL);
            if (text.reserved != NONE || isBoundSince(base)) {
                text.fail(FAULT_TAKEN, text.begin);
            }
            int which = bound;
            if (which >= MOST_BOUND) {
                text.fail(FAULT_FULL, text.begin);
                return;
            }
            boundBegin[which] = text.begin;
            boundEnd[which] = text.end;
            boundShown[which] = false;
            bound++;
            text.next();
            boundTerm[which] = term();
            expect(CLOSE);
        }

        private boolean isBoundSince(int base) {
            for (int i = base; i < bound; i++) {
                if (isBound(i)) {
                    return true;
                }
            }
            return false;
        }
    }

    /** Works out terms, as the document tells what they are worth; arrays are held as one number. */
    private static final class Evaluator {
        private final Book book;
        private final Terms terms;
        final long[] worth = new long[MOST_TERMS];

        Evaluator(Book itsBook) {
            book = itsBook;
            terms = itsBook.terms;
        }

        /** All terms up to one; of a size that is no more than 16. */
        void evaluate(int interpretation, int size, int last) {
            takeThings(interpretation, size);
            for (int t = 0; t <= last; t++) {
                workOut(t);
            }
        }

        void takeThings(int interpretation, int size) {
            for (int i = 0; i < book.things; i++) {
                int t = book.thingTerm[i];
                worth[t] = interpretation >>> book.shift(i, size) & Sorts.mask(terms.sort[t]);
            }
        }

        /** From its arguments; a thing has its worth already. */
        void workOut(int t) {
            int op = terms.op[t];
            if (op == CONSTANT) {
                worth[t] = terms.bits[t];
            } else if (op != THING) {
                worth[t] = applied(t, op) & Sorts.mask(terms.sort[t]);
            }
        }

        private long applied(int t, int op) {
            long a = worthOf(t, 0);
            switch (op) {
                case NOT:
                case BVNOT:
                    return ~a;
                case BVNEG:
                    return -a;
                case ITE:
                    return a != 0L ? worthOf(t, 1) : worthOf(t, 2);
                case IMPLIES:
                    return implication(t);
                case EQUAL:
                    return isAllSame(t) ? 1L : 0L;
                case DISTINCT:
                    return isAllOther(t) ? 1L : 0L;
                case CONCAT:
                    return concat(t);
                case EXTRACT:
                    return a >>> terms.low[t];
                case ZERO_EXTEND:
                    return a;
                case SIGN_EXTEND:
                    return Words.signed(a, firstSort(t));
                case SELECT:
                    return Sorts.cell(firstSort(t), a, worthOf(t, 1));
                case STORE:
                    return store(t, a);
                default:
                    return op >= BVSUB ? ofTwo(t, op, a) : folded(t, op, a);
            }
        }

        private int firstSort(int t) {
            return terms.sort[terms.argument(t, 0)];
        }

        private long worthOf(int t, int which) {
            return worth[terms.argument(t, which)];
        }

        private long ofTwo(int t, int op, long a) {
            long b = worthOf(t, 1);
            if (op >= BVULT) {
                return Words.compare(op, a, b, firstSort(t)) ? 1L : 0L;
            }
            return Words.two(op, a, b, firstSort(t));
        }

        private long folded(int t, int op, long a) {
            long all = a;
            for (int i = 1; i < terms.many(t); i++) {
                all = joined(op, all, worthOf(t, i));
            }
            return all;
        }

        private static long joined(int op, long a, long b) {
            switch (op) {
                case AND:
                case BVAND:
                    return a & b;
                case OR:
                case BVOR:
                    return a | b;
                case XOR:
                case BVXOR:
                    return a ^ b;
                case BVADD:
                    return a + b;
                default:
                    return a * b;
            }
        }

        private long implication(int t) {
            long all = worthOf(t, terms.many(t) - 1);
            for (int i = terms.many(t) - 2; i >= 0; i--) {
                all |= ~worthOf(t, i);
            }
            return all;
        }

        private boolean isAllSame(int t) {
            for (int i = 1; i < terms.many(t); i++) {
                if (worthOf(t, i) != worthOf(t, 0)) {
                    return false;
                }
            }
            return true;
        }

        private boolean isAllOther(int t) {
            for (int i = 1; i < terms.many(t); i++) {
                for (int j = 0; j < i; j++) {
                    if (worthOf(t, i) == worthOf(t, j)) {
                        return false;
                    }
                }
            }
            return true;
        }

        private long concat(int t) {
            long all = 0L;
            for (int i = terms.first[t]; i < terms.first[t + 1]; i++) {
                all = all << terms.sort[terms.args[i]] | worth[terms.args[i]];
            }
            return all;
        }

        private long store(int t, long array) {
            int sort = terms.sort[t];
            int shift = Sorts.cellShift(sort, worthOf(t, 1));
            return array & ~(Sorts.cellMask(sort) << shift) | worthOf(t, 2) << shift;
        }
    }

    /**
     * Tells why a goal is false: which bits of the interpretation make it so, whatever the others are.
     * It goes from the goal back to the things, and asks of each term for those bits alone that count.
     */
    private static final class Learner {
        private final Book book;
        private final Terms terms;
        private final long[] worth;
        /** On which bits of the interpretation each term depends at all. */
        private final int[] depends;
        /** The bits of each term that are still to be explained. */
        private final long[] asked = new long[MOST_TERMS];
        private int size;
        private int mask;

        Learner(Book itsBook, long[] itsWorth, int[] itsDepends) {
            book = itsBook;
            terms = itsBook.terms;
            worth = itsWorth;
            depends = itsDepends;
        }

        int explain(int goal, int itsSize) {
            size = itsSize;
            mask = 0;
            ask(goal, 1L);
            for (int t = goal; t >= terms.lowest[goal]; t--) {
                long bits = asked[t];
                if (bits != 0L) {
                    asked[t] = 0L;
                    explainTerm(t, bits);
                }
            }
            return mask;
        }

        private void ask(int t, long bits) {
            if (terms.op[t] == THING) {
                mask |= (int) bits << book.shift(terms.low[t], size);
            } else if (terms.op[t] != CONSTANT) {
                asked[t] |= bits;
            }
        }

        private void askAll(int t, long bits) {
            for (int i = terms.first[t]; i < terms.first[t + 1]; i++) {
                ask(terms.args[i], bits);
            }
        }

        private long full(int t) {
            return Sorts.mask(terms.sort[t]);
        }

        private void explainTerm(int t, long bits) {
            int a = terms.argument(t, 0);
            switch (terms.op[t]) {
                case NOT:
                case BVNOT:
                    ask(a, bits);
                    break;
                case AND:
                case BVAND:
                    askAll(t, bits & worth[t]);
                    askSome(t, bits & ~worth[t], -1L);
                    break;
                case OR:
                case BVOR:
                    askAll(t, bits & ~worth[t]);
                    askSome(t, bits & worth[t], 0L);
                    break;
                case XOR:
                case BVXOR:
                    askAll(t, bits);
                    break;
                case IMPLIES:
                    explainImplication(t);
                    break;
                case ITE:
                    ask(a, 1L);
                    ask(terms.argument(t, worth[a] != 0L ? 1 : 2), bits);
                    break;
                case BVNEG:
                case BVADD:
                case BVSUB:
                    askAll(t, Words.upToHighest(bits));
                    break;
                case BVMUL:
                    explainProduct(t, Words.upToHighest(bits));
                    break;
                default:
                    explainOther(t, a, bits);
            }
        }

        private void explainOther(int t, int a, long bits) {
            switch (terms.op[t]) {
                case EQUAL:
                    explainEqual(t, a);
                    break;
                case DISTINCT:
                    explainDistinct(t);
                    break;
                case BVSHL:
                case BVLSHR:
                case BVASHR:
                    explainShift(t, a, bits);
                    break;
                case CONCAT:
                    explainConcat(t, bits);
                    break;
                case EXTRACT:
                    ask(a, bits << terms.low[t]);
                    break;
                case ZERO_EXTEND:
                    ask(a, bits & full(a));
                    break;
                case SIGN_EXTEND:
                    ask(a, bits & full(a) | ((bits & ~full(a)) != 0L ? Words.highest(full(a)) : 0L));
                    break;
                case SELECT:
                    explainSelect(t, a, bits);
                    break;
                case STORE:
                    explainStore(t, a, bits);
                    break;
                default:
                    explainWhole(t, a);
            }
        }

        /** For each bit one argument is enough whose bit, turned by flip, is 1. */
        private void askSome(int t, long bits, long flip) {
            long rest = bits;
            for (int turn = 0; turn < terms.many(t) && rest != 0L; turn++) {
                int best = NONE;
                for (int i = terms.first[t]; i < terms.first[t + 1]; i++) {
                    int a = terms.args[i];
                    if ((rest & (worth[a] ^ flip)) != 0L && isBetter(a, best)) {
                        best = a;
                    }
                }
                if (best == NONE) {
                    return;
                }
                ask(best, rest & (worth[best] ^ flip));
                rest &= ~(worth[best] ^ flip);
            }
        }

        /** What hangs on the earlier bits alone rules out more of what is still to come. */
        private boolean isBetter(int a, int best) {
            return best == NONE || Words.trailingZeros(depends[a]) > Words.trailingZeros(depends[best]);
        }

        private void explainImplication(int t) {
            if (worth[t] == 0L) {
                askAll(t, 1L);
                return;
            }
            int last = terms.first[t + 1] - 1;
            int best = NONE;
            for (int i = terms.first[t]; i <= last; i++) {
                int a = terms.args[i];
                if (worth[a] == (i == last ? 1L : 0L) && isBetter(a, best)) {
                    best = a;
                }
            }
            if (best != NONE) {
                ask(best, 1L);
            }
        }

        private void explainProduct(int t, long bits) {
            int best = NONE;
            for (int i = terms.first[t]; i < terms.first[t + 1]; i++) {
                int a = terms.args[i];
                if ((worth[a] & bits) == 0L && isBetter(a, best)) {
                    best = a;
                }
            }
            if (best != NONE) {
                ask(best, bits);
            } else {
                askAll(t, bits);
            }
        }

        private void explainEqual(int t, int a) {
            if (worth[t] != 0L) {
                askAll(t, full(a));
                return;
            }
            for (int i = terms.first[t] + 1; i < terms.first[t + 1]; i++) {
                if (worth[terms.args[i]] != worth[a]) {
                    explainDifference(a, terms.args[i]);
                    return;
                }
            }
        }

        private void explainDistinct(int t) {
            boolean other = worth[t] != 0L;
            for (int i = terms.first[t] + 1; i < terms.first[t + 1]; i++) {
                for (int j = terms.first[t]; j < i; j++) {
                    int a = terms.args[i];
                    int b = terms.args[j];
                    if (other) {
                        explainDifference(a, b);
                    } else if (worth[a] == worth[b]) {
                        ask(a, full(a));
                        ask(b, full(a));
                        return;
                    }
                }
            }
        }

        /** Carries run upwards, so that the lowest bit of a sum hangs on least; else high bits are better. */
        private void explainDifference(int a, int b) {
            long bits = worth[a] ^ worth[b];
            long one = hasCarries(a) || hasCarries(b) ? bits & -bits : Words.highest(bits);
            ask(a, one);
            ask(b, one);
        }

        private boolean hasCarries(int t) {
            int op = terms.op[t];
            return op == BVNEG || op == BVADD || op == BVMUL || op == BVSUB;
        }

        private void explainShift(int t, int a, long bits) {
            int by = terms.argument(t, 1);
            int width = terms.sort[a];
            ask(by, full(a));
            if (terms.op[t] == BVASHR) {
                int shift = Words.signShift(worth[by], width);
                boolean filled = (bits & ~(full(a) >>> shift)) != 0L;
                ask(a, bits << shift & full(a) | (filled ? Words.highest(full(a)) : 0L));
            } else if (Words.less(worth[by], width)) {
                int shift = (int) worth[by];
                ask(a, terms.op[t] == BVSHL ? bits >>> shift : bits << shift & full(a));
            }
        }

        private void explainConcat(int t, long bits) {
            long rest = bits;
            for (int i = terms.first[t + 1] - 1; i >= terms.first[t]; i--) {
                int a = terms.args[i];
                ask(a, rest & full(a));
                rest >>>= terms.sort[a];
            }
        }

        private void explainSelect(int t, int a, long bits) {
            int index = terms.argument(t, 1);
            ask(index, full(index));
            ask(a, bits << Sorts.cellShift(terms.sort[a], worth[index]));
        }

        private void explainStore(int t, int a, long bits) {
            int index = terms.argument(t, 1);
            int shift = Sorts.cellShift(terms.sort[a], worth[index]);
            long cell = Sorts.cellMask(terms.sort[a]) << shift;
            ask(index, full(index));
            ask(a, bits & ~cell);
            ask(terms.argument(t, 2), (bits & cell) >>> shift);
        }

        /** Divisions hang on all bits; comparisons on those from the highest one that differs on. */
        private void explainWhole(int t, int a) {
            long bits = full(a);
            if (terms.op[t] >= BVULT) {
                long differing = worth[a] ^ worth[terms.argument(t, 1)];
                bits &= ~(Words.upToHighest(differing) >>> 1);
            }
            askAll(t, bits);
        }
    }

    /**
     * Looks through what was learned, by means of its own: it works terms out of which some bits are
     * known and others not, and knows a bit of a result only where the unknown ones don't count.
     */
    private static final class Checker {
        private final Book book;
        private final Terms terms;
        private final long[] known = new long[MOST_TERMS];
        /** 0 where a bit is not known. */
        private final long[] ones = new long[MOST_TERMS];
        private final byte[] marked = new byte[MOST_TERMS];

        Checker(Book itsBook) {
            book = itsBook;
            terms = itsBook.terms;
        }

        /** Whether a goal is false wherever the bits of the mask are those that are held. */
        boolean followsFalse(int goal, int mask, int held, int size) {
            for (int i = 0; i < book.things; i++) {
                int t = book.thingTerm[i];
                int shift = book.shift(i, size);
                long full = Sorts.mask(terms.sort[t]);
                learn(t, mask >>> shift & full, held >>> shift);
            }
            terms.markCone(goal, marked);
            for (int t = terms.lowest[goal]; t <= goal; t++) {
                if (marked[t] != 0) {
                    marked[t] = 0;
                    workOut(t);
                }
            }
            return known[goal] != 0L && ones[goal] == 0L;
        }

        /** Whether all that has the bits that are held is less than the start. */
        boolean followsBound(int mask, int held, int start, int size) {
            int free = (1 << size) - 1 & ~mask;
            return (held | free) < start;
        }

        /**
         * Whether one thing follows from two: none has the bits of the first, none those of the
         * second, and they say the same but of one bit, of which they say the contrary.
         */
        boolean followsBoth(int bit, int mask, int held, int otherMask, int otherHeld, int joined) {
            boolean contrary = (mask & otherMask & (held ^ otherHeld)) == bit;
            return contrary && joined == ((mask | otherMask) & ~bit);
        }

        private void learn(int t, long itsKnown, long itsOnes) {
            known[t] = itsKnown;
            ones[t] = itsOnes & itsKnown;
        }

        private long full(int t) {
            return Sorts.mask(terms.sort[t]);
        }

        private boolean isKnown(int t) {
            return known[t] == full(t);
        }

        private void workOut(int t) {
            int op = terms.op[t];
            switch (op) {
                case THING:
                    break;
                case CONSTANT:
                    learn(t, full(t), terms.bits[t]);
                    break;
                case AND:
                case BVAND:
                    workOutAnd(t);
                    break;
                case OR:
                case BVOR:
                case IMPLIES:
                    workOutOr(t, op == IMPLIES);
                    break;
                case XOR:
                case BVXOR:
                    workOutXor(t);
                    break;
                case ITE:
                    workOutIte(t);
                    break;
                case EQUAL:
                    workOutEqual(t);
                    break;
                case DISTINCT:
                    workOutDistinct(t);
                    break;
                case BVADD:
                    workOutSum(t);
                    break;
                case BVMUL:
                    workOutProduct(t);
                    break;
                case CONCAT:
                    workOutConcat(t);
                    break;
                default:
                    workOutFew(t, op, terms.argument(t, 0));
            }
        }

        /** Those that have one argument, or two or three and no more. */
        private void workOutFew(int t, int op, int a) {
            switch (op) {
                case NOT:
                case BVNOT:
                    learn(t, known[a], ~ones[a]);
                    break;
                case BVNEG:
                    learn(t, Words.lowestRun(known[a]), -ones[a]);
                    break;
                case BVSUB:
                    workOutDifference(t, a, terms.argument(t, 1));
                    break;
                case EXTRACT:
                    learn(t, known[a] >>> terms.low[t] & full(t), ones[a] >>> terms.low[t]);
                    break;
                case ZERO_EXTEND:
                    learn(t, known[a] | full(t) & ~full(a), ones[a]);
                    break;
                case SIGN_EXTEND:
                    learn(t, Words.signed(known[a], terms.sort[a]) & full(t), Words.signed(ones[a], terms.sort[a]));
                    break;
                case SELECT:
                    workOutSelect(t, a, terms.argument(t, 1));
                    break;
                case STORE:
                    workOutStore(t, a, terms.argument(t, 1));
                    break;
                case BVSHL:
                case BVLSHR:
                case BVASHR:
                    workOutShift(t, a, terms.argument(t, 1));
                    break;
                default:
                    if (op >= BVULT) {
                        workOutComparison(t, a, terms.argument(t, 1));
                    } else {
                        workOutDivision(t, a, terms.argument(t, 1));
                    }
            }
        }

        private void workOutAnd(int t) {
            long all = full(t);
            long zeros = 0L;
            for (int i = terms.first[t]; i < terms.first[t + 1]; i++) {
                int a = terms.args[i];
                all &= ones[a];
                zeros |= known[a] & ~ones[a];
            }
            learn(t, all | zeros, all);
        }

        /** In an implication all arguments but the last one count as turned. */
        private void workOutOr(int t, boolean implication) {
            long some = 0L;
            long zeros = full(t);
            int last = terms.first[t + 1] - 1;
            for (int i = terms.first[t]; i <= last; i++) {
                int a = terms.args[i];
                long turned = implication && i < last ? known[a] : 0L;
                some |= ones[a] ^ turned;
                zeros &= known[a] & ~(ones[a] ^ turned);
            }
            learn(t, some | zeros, some);
        }

        private void workOutXor(int t) {
            long both = full(t);
            long sum = 0L;
            for (int i = terms.first[t]; i < terms.first[t + 1]; i++) {
                both &= known[terms.args[i]];
                sum ^= ones[terms.args[i]];
            }
            learn(t, both, sum);
        }

        private void workOutIte(int t) {
            int a = terms.argument(t, 0);
            int yes = terms.argument(t, 1);
            int no = terms.argument(t, 2);
            if (isKnown(a)) {
                int taken = ones[a] != 0L ? yes : no;
                learn(t, known[taken], ones[taken]);
            } else {
                learn(t, known[yes] & known[no] & ~(ones[yes] ^ ones[no]), ones[yes]);
            }
        }

        private boolean isSurelyOther(int a, int b) {
            return (known[a] & known[b] & (ones[a] ^ ones[b])) != 0L;
        }

        private boolean isSurelySame(int a, int b) {
            return isKnown(a) && isKnown(b) && ones[a] == ones[b];
        }

        private void workOutEqual(int t) {
            int a = terms.argument(t, 0);
            boolean same = true;
            boolean other = false;
            for (int i = terms.first[t] + 1; i < terms.first[t + 1]; i++) {
                same &= isSurelySame(a, terms.args[i]);
                other |= isSurelyOther(a, terms.args[i]);
            }
            learn(t, same || other ? 1L : 0L, same ? 1L : 0L);
        }

        private void workOutDistinct(int t) {
            boolean same = false;
            boolean other = true;
            for (int i = terms.first[t] + 1; i < terms.first[t + 1]; i++) {
                for (int j = terms.first[t]; j < i; j++) {
                    same |= isSurelySame(terms.args[i], terms.args[j]);
                    other &= isSurelyOther(terms.args[i], terms.args[j]);
                }
            }
            learn(t, same || other ? 1L : 0L, other ? 1L : 0L);
        }

        /** Up to the lowest bit that is not known a sum, a difference and a product are known. */
        private void workOutSum(int t) {
            long run = full(t);
            long sum = 0L;
            for (int i = terms.first[t]; i < terms.first[t + 1]; i++) {
                run &= Words.lowestRun(known[terms.args[i]]);
                sum += ones[terms.args[i]];
            }
            learn(t, run, sum);
        }

        private void workOutDifference(int t, int a, int b) {
            learn(t, Words.lowestRun(known[a]) & Words.lowestRun(known[b]), ones[a] - ones[b]);
        }

        /** Zeros at the end of one number shift the unknown bits of the other one up. */
        private void workOutProduct(int t) {
            long run = full(t);
            long product = 1L;
            for (int i = terms.first[t]; i < terms.first[t + 1]; i++) {
                int a = terms.args[i];
                long itsRun = Words.lowestRun(known[a]);
                long zeros = Words.lowestRun(known[a] & ~ones[a]);
                long productZeros = Words.lowestRun(run & ~product);
                int bits = Math.min(
                    Long.bitCount(run) + Long.bitCount(zeros),
                    Long.bitCount(itsRun) + Long.bitCount(productZeros));
                product = (product & run) * (ones[a] & itsRun);
                run = Words.mask(bits) & full(t);
            }
            learn(t, run, product);
        }

        private void workOutDivision(int t, int a, int b) {
            if (isKnown(a) && isKnown(b)) {
                learn(t, full(t), Words.two(terms.op[t], ones[a], ones[b], terms.sort[t]));
            } else {
                learn(t, 0L, 0L);
            }
        }

        private void workOutShift(int t, int a, int by) {
            int width = terms.sort[t];
            if (!isKnown(by)) {
                learn(t, 0L, 0L);
            } else if (terms.op[t] == BVASHR) {
                int shift = Words.signShift(ones[by], width);
                learn(t, Words.signed(known[a], width) >> shift & full(t), Words.signed(ones[a], width) >> shift);
            } else if (!Words.less(ones[by], width)) {
                learn(t, full(t), 0L);
            } else if (terms.op[t] == BVSHL) {
                int shift = (int) ones[by];
                learn(t, (known[a] << shift | Words.mask(shift)) & full(t), ones[a] << shift);
            } else {
                int shift = (int) ones[by];
                learn(t, known[a] >>> shift | full(t) & ~(full(t) >>> shift), ones[a] >>> shift);
            }
        }

        /** By the least and the greatest number that each of the two may be. */
        private void workOutComparison(int t, int a, int b) {
            int op = terms.op[t];
            int width = terms.sort[a];
            long flip = Words.flipped(op, width);
            long leastA = ones[a] ^ flip & known[a];
            long mostA = leastA | full(a) & ~known[a];
            long leastB = ones[b] ^ flip & known[b];
            long mostB = leastB | full(b) & ~known[b];
            boolean surelyLess = Words.less(mostA, leastB);
            boolean surelyGreater = Words.less(mostB, leastA);
            boolean surelyNotLess = !Words.less(leastA, mostB);
            boolean surelyNotGreater = !Words.less(leastB, mostA);
            switch (op) {
                case BVULT:
                case BVSLT:
                    learnEither(t, surelyLess, surelyNotLess);
                    break;
                case BVULE:
                case BVSLE:
                    learnEither(t, surelyNotGreater, surelyGreater);
                    break;
                case BVUGT:
                case BVSGT:
                    learnEither(t, surelyGreater, surelyNotGreater);
                    break;
                default:
                    learnEither(t, surelyNotLess, surelyLess);
            }
        }

        private void learnEither(int t, boolean yes, boolean no) {
            learn(t, yes || no ? 1L : 0L, yes ? 1L : 0L);
        }

        private void workOutConcat(int t) {
            long all = 0L;
            long sum = 0L;
            for (int i = terms.first[t]; i < terms.first[t + 1]; i++) {
                int a = terms.args[i];
                all = all << terms.sort[a] | known[a];
                sum = sum << terms.sort[a] | ones[a];
            }
            learn(t, all, sum);
        }

        private void workOutSelect(int t, int a, int index) {
            if (isKnown(index)) {
                int sort = terms.sort[a];
                learn(t, Sorts.cell(sort, known[a], ones[index]), Sorts.cell(sort, ones[a], ones[index]));
            } else {
                learn(t, 0L, 0L);
            }
        }

        private void workOutStore(int t, int a, int index) {
            if (!isKnown(index)) {
                learn(t, 0L, 0L);
                return;
            }
            int shift = Sorts.cellShift(terms.sort[t], ones[index]);
            long others = ~(Sorts.cellMask(terms.sort[t]) << shift);
            int put = terms.argument(t, 2);
            learn(t, known[a] & others | known[put] << shift, ones[a] & others | ones[put] << shift);
        }
    }

    /**
     * Looks for the least interpretation from a start on, upwards. Where a goal is false it learns a
     * NOGOOD, some bits with which none of the interpretations can be right, goes on at the next one
     * that has not all of these, and joins the nogoods for both values of a bit into one without it.
     */
    private static final class Search {
        private final Book book;
        private final Terms terms;
        private final Evaluator evaluator;
        private final Learner learner;
        private final Checker checker;
        private final int[] depends = new int[MOST_TERMS];
        private final int[] goals = new int[MOST_ASSERTIONS + 1];
        private int goalCount;
        /** The terms that a goal has and those before it have not: up to steps[stepEnd[g]]. */
        private final int[] steps = new int[MOST_TERMS];
        private final int[] stepEnd = new int[MOST_ASSERTIONS + 1];
        /** The interpretation with which the steps of a goal were gone last. */
        private final int[] stepsAt = new int[MOST_ASSERTIONS + 1];
        /** 1 while a goal's terms are being looked for, 2 for those that are steps already. */
        private final byte[] marked = new byte[MOST_TERMS];
        private final byte[] listed = new byte[MOST_TERMS];
        /** For each bit that is 1 now: the nogood that rules it out that it were 0, its mask and its bits. */
        private final int[] nogoodMask = new int[MOST_SIZE];
        private final int[] nogoodHeld = new int[MOST_SIZE];
        private int size;
        int refusedOnes;

        Search(Book itsBook) {
            book = itsBook;
            terms = itsBook.terms;
            evaluator = new Evaluator(itsBook);
            learner = new Learner(itsBook, evaluator.worth, depends);
            checker = new Checker(itsBook);
        }

        /** NONE if there is none from the start on; of a size that is no more than 16. */
        int least(int start, int itsSize, int supposed) {
            size = itsSize;
            int end = 1 << size;
            if (start >= end) {
                return NONE;
            }
            findDependencies();
            orderGoals(supposed);
            listSteps(start);
            learnBound(start);
            int at = start;
            for (int tries = 0; tries < end && at != NONE; tries++) {
                int goal = falseGoal(at);
                if (goal == NONE) {
                    return at;
                }
                at = nextAfter(at, learnWhy(goal, at));
            }
            return NONE;
        }

        private int allBits() {
            return (1 << size) - 1;
        }

        private void findDependencies() {
            for (int t = 0; t < terms.made; t++) {
                int all = 0;
                if (terms.op[t] == THING) {
                    all = (int) Sorts.mask(terms.sort[t]) << book.shift(terms.low[t], size);
                }
                for (int i = terms.first[t]; i < terms.first[t + 1]; i++) {
                    all |= depends[terms.args[i]];
                }
                depends[t] = all;
            }
        }

        /** Those that hang on the earlier bits alone come first: where they are false more is ruled out. */
        private void orderGoals(int supposed) {
            goalCount = 0;
            for (int zeros = 32; zeros >= 0; zeros--) {
                for (int i = 0; i < book.assertions; i++) {
                    addGoal(book.asserted[i], zeros);
                }
                if (supposed != NONE) {
                    addGoal(supposed, zeros);
                }
            }
        }

        private void addGoal(int goal, int zeros) {
            if (Words.trailingZeros(depends[goal]) == zeros && goalCount < goals.length) {
                goals[goalCount] = goal;
                goalCount++;
            }
        }

        private void listSteps(int start) {
            for (int t = 0; t < terms.made; t++) {
                listed[t] = 0;
            }
            evaluator.takeThings(start, size);
            int end = 0;
            for (int g = 0; g < goalCount; g++) {
                int goal = goals[g];
                terms.markCone(goal, marked);
                for (int t = terms.lowest[goal]; t <= goal; t++) {
                    if (marked[t] != 0 && listed[t] == 0) {
                        listed[t] = 1;
                        steps[end] = t;
                        end++;
                        evaluator.workOut(t);
                    }
                    marked[t] = 0;
                }
                stepEnd[g] = end;
                stepsAt[g] = start;
            }
        }

        /** For more(): what is less than the start counts as ruled out. */
        private void learnBound(int start) {
            for (int p = 0; p < size; p++) {
                if ((start >> p & 1) != 0) {
                    int above = allBits() >> p + 1 << p + 1;
                    int mask = above & ~start | 1 << p;
                    if (checker.followsBound(mask, 0, start, size)) {
                        nogoodMask[p] = mask;
                        nogoodHeld[p] = 0;
                    } else {
                        refusedOnes++;
                        nogoodMask[p] = above | 1 << p;
                        nogoodHeld[p] = start & above;
                    }
                }
            }
        }

        /** A goal that is false; only what hangs on bits that have changed is worked out anew. */
        private int falseGoal(int at) {
            evaluator.takeThings(at, size);
            int from = 0;
            for (int g = 0; g < goalCount; g++) {
                int changed = at ^ stepsAt[g];
                stepsAt[g] = at;
                for (int i = from; i < stepEnd[g]; i++) {
                    if ((depends[steps[i]] & changed) != 0) {
                        evaluator.workOut(steps[i]);
                    }
                }
                if (evaluator.worth[goals[g]] == 0L) {
                    return goals[g];
                }
                from = stepEnd[g];
            }
            return NONE;
        }

        /** The mask of a nogood; that of all bits needs no look, as it says no more than was tried. */
        private int learnWhy(int goal, int at) {
            int mask = learner.explain(goal, size);
            if (mask != allBits() && !checker.followsFalse(goal, mask, at & mask, size)) {
                refusedOnes++;
                return allBits();
            }
            return mask;
        }

        /** The least interpretation above one that no nogood rules out, or NONE. */
        private int nextAfter(int at, int mask) {
            int rest = mask;
            for (int p = 0; p < size; p++) {
                int bit = 1 << p;
                if ((rest & bit) != 0) {
                    if ((at & bit) == 0) {
                        nogoodMask[p] = rest;
                        nogoodHeld[p] = at & rest;
                        return (at | bit) >> p << p;
                    }
                    rest = join(p, at, rest);
                }
            }
            return NONE;
        }

        private int join(int p, int at, int mask) {
            int bit = 1 << p;
            int joined = (mask | nogoodMask[p]) & ~bit;
            if (checker.followsBoth(bit, mask, at & mask, nogoodMask[p], nogoodHeld[p], joined)) {
                return joined;
            }
            refusedOnes++;
            return allBits() >> p + 1 << p + 1;
        }
    }
}
