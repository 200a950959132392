/**
 * Decides what texts assert about bit vectors and arrays: whether there are values of the declared
 * things that make all assertions true, and which are the least; what it learns on its way it has
 * looked through by a checker of its own, and what it finds by an evaluator of its own.
 *
 * An interpretation is held as one number of SIZE bits, the things in their order from its highest
 * bit on, and the cells of an array likewise: then a lesser number is a lesser interpretation.
 */
public final class VectorSolver {
    /** There is none. */
    public static final int NONE = -1;

    // The document's limits.
    private static final int TEXT_BYTES = 65536;
    private static final int FED_BYTES = 20;
    private static final int MOST_TERMS = 2000;
    private static final int MOST_NAMES = 500;
    private static final int NAME_BYTES = 65536;
    private static final int MOST_ASSERTIONS = 500;
    private static final int MOST_BOUND = 16;
    private static final int MOST_ARGUMENTS = 40;
    private static final int MOST_OPEN = 60;
    private static final int MOST_WEIGHT = 100000;
    private static final int MOST_WIDTH = 64;
    private static final int MOST_INDEX_WIDTH = 6;
    private static final int MOST_SIZE = 16;
    private static final int MOST_EFFORT = 200000000;

    // The kinds of faults.
    private static final int FAULT_SIGN = 1;
    private static final int FAULT_FORM = 2;
    private static final int FAULT_END = 3;
    private static final int FAULT_OTHER = 4;
    private static final int FAULT_NAME = 5;
    private static final int FAULT_TAKEN = 6;
    private static final int FAULT_NUMBER = 7;
    private static final int FAULT_MANY = 8;
    private static final int FAULT_SORTS = 9;
    private static final int FAULT_DEEP = 10;
    private static final int FAULT_FULL = 11;
    private static final int FAULT_HEAVY = 12;

    // What a word or bracket is.
    private static final int OPEN = 0;
    private static final int CLOSE = 1;
    private static final int NUMERAL = 2;
    private static final int BINARY = 3;
    private static final int HEX = 4;
    private static final int SYMBOL = 5;
    /** With a fault's kind more: what is wrong wherever it stands, once it is wanted. */
    private static final int BAD = 16;

    /** The reserved words; the numbers below are their places in this row. */
    private static final String RESERVED = "declare-const define-fun assert Bool _ BitVec Array true false let extract zero_extend sign_extend not and or xor => ite = distinct bvnot bvneg bvand bvor bvxor bvadd bvmul bvsub bvudiv bvurem bvsdiv bvsrem bvshl bvlshr bvashr bvult bvule bvugt bvuge bvslt bvsle bvsgt bvsge concat select store ";
    private static final int DECLARE_CONST = 0;
    private static final int DEFINE_FUN = 1;
    private static final int ASSERT = 2;
    private static final int BOOL = 3;
    private static final int UNDERSCORE = 4;
    private static final int BIT_VEC = 5;
    private static final int ARRAY = 6;
    private static final int TRUE = 7;
    private static final int FALSE = 8;
    private static final int LET = 9;
    private static final int EXTRACT = 10;
    private static final int ZERO_EXTEND = 11;
    private static final int SIGN_EXTEND = 12;
    private static final int NOT = 13;
    private static final int AND = 14;
    private static final int OR = 15;
    private static final int XOR = 16;
    private static final int IMPLIES = 17;
    private static final int ITE = 18;
    private static final int EQUAL = 19;
    private static final int DISTINCT = 20;
    private static final int BVNOT = 21;
    private static final int BVNEG = 22;
    private static final int BVAND = 23;
    private static final int BVOR = 24;
    private static final int BVXOR = 25;
    private static final int BVADD = 26;
    private static final int BVMUL = 27;
    private static final int BVSUB = 28;
    private static final int BVUDIV = 29;
    private static final int BVUREM = 30;
    private static final int BVSDIV = 31;
    private static final int BVSREM = 32;
    private static final int BVSHL = 33;
    private static final int BVLSHR = 34;
    private static final int BVASHR = 35;
    private static final int BVULT = 36;
    private static final int BVULE = 37;
    private static final int BVUGT = 38;
    private static final int BVUGE = 39;
    private static final int BVSLT = 40;
    private static final int BVSLE = 41;
    private static final int BVSGT = 42;
    private static final int BVSGE = 43;
    private static final int CONCAT = 44;
    private static final int SELECT = 45;
    private static final int STORE = 46;
    private static final int RESERVED_WORDS = 47;
    // Terms that are no applications.
    private static final int THING = 47;
    private static final int CONSTANT = 48;

    private final Text text;
    private final Book book;
    private final Reader reader;
    private final Search search;
    /** Apart from the one with which the search works, so that it sees nothing of its doings. */
    private final Evaluator judge;
    private int effortLeft;
    private int found;
    private int foundSize;
    private int foundThings;
    private int falseOnes;

    public VectorSolver() {
        text = new Text();
        book = new Book();
        reader = new Reader(text, book);
        search = new Search(book);
        judge = new Evaluator(book);
        effortLeft = MOST_EFFORT;
        found = NONE;
    }

    public int feed(int a, int b, int c, int d, int e) throws IllegalStateException {
        if (text.length > TEXT_BYTES - FED_BYTES) {
            throw new IllegalStateException("the text would have more than 65536 bytes");
        }
        text.append(a);
        text.append(b);
        text.append(c);
        text.append(d);
        text.append(e);
        return text.length;
    }

    public int trim(int n) throws IllegalArgumentException {
        if (n < 0 || n > FED_BYTES || n > text.length) {
            throw new IllegalArgumentException("so many bytes can't go");
        }
        text.length -= n;
        return text.length;
    }

    public int read() {
        return reader.wholeText();
    }

    public int fault(int what) throws IllegalArgumentException {
        switch (what) {
            case 0:
                return text.faultKind;
            case 1:
                return text.faultPlace;
            default:
                throw new IllegalArgumentException("a fault has a kind and a place");
        }
    }

    public boolean check() throws IllegalStateException {
        askForSearch();
        return searchFrom(0, NONE);
    }

    public boolean more() throws IllegalStateException {
        askForSearch();
        return searchFrom(found == NONE ? 0 : grownFound() + 1, NONE);
    }

    public boolean suppose(int name) throws IllegalArgumentException, IllegalStateException {
        int term = termOfName(name);
        if (book.terms.sort[term] != Sorts.BOOL) {
            throw new IllegalArgumentException("the name is no Bool");
        }
        askForSearch();
        return searchFrom(0, term);
    }

    public long value(int thing, int cell) throws IllegalArgumentException, IllegalStateException {
        int sort = sortOfThing(thing);
        if (cell < 0 || cell >= Sorts.cells(sort)) {
            throw new IllegalArgumentException("there is no such cell");
        }
        if (found == NONE) {
            throw new IllegalStateException("none is found");
        }
        if (thing >= foundThings) {
            return 0L;
        }
        long whole = found >>> book.shift(thing, foundSize);
        return Sorts.cell(sort, whole, cell);
    }

    public long named(int name) throws IllegalArgumentException, IllegalStateException {
        int term = termOfName(name);
        if (Sorts.isArray(book.terms.sort[term])) {
            throw new IllegalArgumentException("the name is an array");
        }
        if (found == NONE || book.size() > MOST_SIZE) {
            throw new IllegalStateException("none is found, or too much is declared");
        }
        judge.evaluate(grownFound(), book.size(), term);
        return judge.worth[term];
    }

    public int missed() {
        return found == NONE ? 0 : falseOnes;
    }

    public int refused() {
        return search.refusedOnes;
    }

    public int thing(int thing, int what) throws IllegalArgumentException {
        int sort = sortOfThing(thing);
        switch (what) {
            case 0:
                return sort == Sorts.BOOL ? 0 : Sorts.isArray(sort) ? 2 : 1;
            case 1:
                return Sorts.width(sort);
            case 2:
                return Sorts.indexWidth(sort);
            case 3:
                return book.thingName[thing];
            default:
                throw new IllegalArgumentException("nothing such is known of a thing");
        }
    }

    public int count(int what) throws IllegalArgumentException {
        switch (what) {
            case 0:
                return book.terms.made;
            case 1:
                return book.names;
            case 2:
                return book.assertions;
            case 3:
                return text.length;
            case 4:
                return book.things;
            case 5:
                return book.size();
            case 6:
                return book.terms.weight;
            default:
                throw new IllegalArgumentException("nothing such is counted");
        }
    }

    private int termOfName(int name) throws IllegalArgumentException {
        if (name < 0 || name >= book.names) {
            throw new IllegalArgumentException("there is no such name");
        }
        return book.nameTerm[name];
    }

    private int sortOfThing(int thing) throws IllegalArgumentException {
        if (thing < 0 || thing >= book.things) {
            throw new IllegalArgumentException("there is no such thing");
        }
        return book.terms.sort[book.thingTerm[thing]];
    }

    private void askForSearch() throws IllegalStateException {
        if (book.size() > MOST_SIZE || effort() > effortLeft) {
            throw new IllegalStateException("too much is declared, or the effort is used up");
        }
    }

    /** Asked only where SIZE is no more than 16, so that it stays below 2 to the 27. */
    private int effort() {
        return book.terms.made << book.size();
    }

    /** What was found, with 0 for the things that were declared behind it. */
    private int grownFound() {
        return found << (book.size() - foundSize);
    }

    private boolean searchFrom(int start, int supposed) {
        effortLeft -= effort();
        foundSize = book.size();
        foundThings = book.things;
        found = search.least(start, foundSize, supposed);
        if (found != NONE) {
            falseOnes = countFalse(supposed);
        }
        return found != NONE;
    }

    private int countFalse(int supposed) {
        judge.evaluate(found, foundSize, book.terms.made - 1);
        int many = supposed != NONE && judge.worth[supposed] == 0L ? 1 : 0;
        for (int i = 0; i < book.assertions; i++) {
            if (judge.worth[book.asserted[i]] == 0L) {
                many++;
            }
        }
        return many;
    }

    /** A sort is one number: 0 a Bool, 1 .. 64 a vector, 128 times the index width more an array. */
    private static final class Sorts {
        static final int BOOL = 0;
        private static final int INDEX_SHIFT = 7;
        private static final int WIDTH_BITS = 127;

        static int array(int indexWidth, int width) {
            return (indexWidth << INDEX_SHIFT) + width;
        }

        static boolean isArray(int sort) {
            return sort > WIDTH_BITS;
        }

        static boolean isVector(int sort) {
            return sort > BOOL && sort <= WIDTH_BITS;
        }

        static int width(int sort) {
            return sort & WIDTH_BITS;
        }

        static int indexWidth(int sort) {
            return sort >> INDEX_SHIFT;
        }

        static int cells(int sort) {
            return 1 << (sort >> INDEX_SHIFT);
        }

        static int size(int sort) {
            return sort == BOOL ? 1 : (sort & WIDTH_BITS) << (sort >> INDEX_SHIFT);
        }

        /** How many bits of an array that is held as one number stand below a cell. */
        static int cellShift(int sort, long index) {
            return ((1 << (sort >> INDEX_SHIFT)) - 1 - (int) index) * (sort & WIDTH_BITS);
        }

        /** Of what is no array the whole. */
        static long cell(int sort, long whole, long index) {
            long mask = sort == BOOL ? 1L : Words.mask(sort & WIDTH_BITS);
            return (whole >>> cellShift(sort, index)) & mask;
        }
    }

    /** Numbers of up to 64 bits without signs, each held in the lowest bits of a long. */
    private static final class Words {
        static long mask(int width) {
            return width >= 64 ? -1L : (1L << width) - 1L;
        }

        /** The number with a sign that the lowest bits are. */
        static long signed(long a, int width) {
            int rest = 64 - width;
            return (a << rest) >> rest;
        }

        static boolean less(long a, long b) {
            return a + Long.MIN_VALUE < b + Long.MIN_VALUE;
        }

        /** All bits from the lowest one up to the highest that is 1. */
        static long upToHighest(long a) {
            long all = a | (a >>> 1);
            all |= all >>> 2;
            all |= all >>> 4;
            all |= all >>> 8;
            all |= all >>> 16;
            return all | (all >>> 32);
        }

        /** The bits below the lowest one that is 0. */
        static long lowestRun(long a) {
            return (~a & (a + 1L)) - 1L;
        }

        static int trailingZeros(int a) {
            return Integer.bitCount((a & -a) - 1);
        }

        /** Of two arguments; what is above the width does not count. */
        static long two(int op, long a, long b, int width) {
            switch (op) {
                case BVSUB: return a - b;
                case BVUDIV: return quotient(a, b);
                case BVUREM: return a - quotient(a, b) * b;
                case BVSDIV: return signedQuotient(signed(a, width), signed(b, width));
                case BVSREM: return signedRest(signed(a, width), signed(b, width));
                case BVSHL: return less(b, width) ? a << (int) b : 0L;
                case BVLSHR: return less(b, width) ? a >>> (int) b : 0L;
                case BVASHR: return signed(a, width) >> signShift(b, width);
                default: return 0L;
            }
        }

        /** Where the highest bit comes in, no shift does more than that by the width less 1. */
        static int signShift(long by, int width) {
            return by >= 0L && by < width ? (int) by : width - 1;
        }

        private static long quotient(long a, long b) {
            if (b == 0L) {
                return -1L;
            }
            if (b < 0L) {
                return a < 0L && a >= b ? 1L : 0L;
            }
            // Java divides with signs; a half has none, and what is lost by it is 1 at most.
            long nearly = ((a >>> 1) / b) << 1;
            long rest = a - nearly * b;
            return rest >= 0L && rest < b ? nearly : nearly + 1L;
        }

        private static long signedQuotient(long a, long b) {
            if (b == 0L) {
                return a < 0L ? 1L : -1L;
            }
            return a / b;
        }

        private static long signedRest(long a, long b) {
            return b == 0L ? a : a % b;
        }

        /** With the highest bit turned, numbers with signs are in the order of those without. */
        static long turned(int op, int width) {
            return op >= BVSLT ? 1L << (width - 1) : 0L;
        }

        static boolean compare(int op, long a, long b, int width) {
            long turn = turned(op, width);
            switch (op) {
                case BVULT: case BVSLT: return less(a ^ turn, b ^ turn);
                case BVULE: case BVSLE: return !less(b ^ turn, a ^ turn);
                case BVUGT: case BVSGT: return less(b ^ turn, a ^ turn);
                default: return !less(a ^ turn, b ^ turn);
            }
        }
    }

    /** The terms in the order in which they were made. */
    private static final class Terms {
        final int[] op = new int[MOST_TERMS];
        final int[] sort = new int[MOST_TERMS];
        /** The arguments of t stand in args from first[t] on, up to first[t + 1]. */
        final int[] first = new int[MOST_TERMS + 1];
        final int[] args = new int[MOST_TERMS * MOST_ARGUMENTS];
        /** Of an extract its lowest bit, of a thing its number. */
        final int[] low = new int[MOST_TERMS];
        final long[] bits = new long[MOST_TERMS];
        /** As many ones as a value of the term has bits; of no use for an array of more than 64. */
        final long[] full = new long[MOST_TERMS];
        /** The least number among a term and all that it is made of, things aside. */
        final int[] lowest = new int[MOST_TERMS];
        /** Whether it is a sum or product, or has the bits of one in their places. */
        final boolean[] carries = new boolean[MOST_TERMS];
        int made;
        int weight;

        /** Asked for only where there is room. */
        int add(int itsOp, int itsSort, long itsBits) {
            int t = made;
            op[t] = itsOp;
            sort[t] = itsSort;
            low[t] = 0;
            bits[t] = itsBits;
            full[t] = Words.mask(Sorts.size(itsSort));
            lowest[t] = t;
            carries[t] = itsOp == BVNEG || itsOp == BVADD || itsOp == BVMUL || itsOp == BVSUB;
            first[t + 1] = first[t];
            made = t + 1;
            return t;
        }

        /** For the last term alone. */
        void addArgument(int t, int argument) {
            int end = first[t + 1];
            if (end < args.length) {
                args[end] = argument;
                first[t + 1] = end + 1;
            }
            if (op[argument] != THING && lowest[argument] < lowest[t]) {
                lowest[t] = lowest[argument];
            }
            if (carries[argument] && keepsPlaces(t)) {
                carries[t] = true;
            }
        }

        private boolean keepsPlaces(int t) {
            switch (op[t]) {
                case ITE: case BVNOT: case BVAND: case BVOR: case BVXOR: case ZERO_EXTEND: case SIGN_EXTEND:
                    return true;
                case EXTRACT:
                    return low[t] == 0;
                default:
                    return false;
            }
        }

        /** Marks a term and all that it is made of, things aside. */
        void markCone(int goal, byte[] marked) {
            marked[goal] = 1;
            for (int t = goal; t >= lowest[goal]; t--) {
                if (marked[t] != 0) {
                    markArguments(t, marked);
                }
            }
        }

        private void markArguments(int t, byte[] marked) {
            for (int i = first[t]; i < first[t + 1]; i++) {
                if (op[args[i]] != THING) {
                    marked[args[i]] = 1;
                }
            }
        }
    }

    /** What all texts said: terms, names, things, assertions. */
    private static final class Book {
        final Terms terms = new Terms();
        final byte[] letters = new byte[NAME_BYTES];
        /** The letters of name n stand from nameFirst[n] on, up to nameFirst[n + 1]. */
        final int[] nameFirst = new int[MOST_NAMES + 1];
        final int[] nameTerm = new int[MOST_NAMES];
        int names;
        final int[] thingTerm = new int[MOST_NAMES];
        final int[] thingName = new int[MOST_NAMES];
        /** The size of all things before one. */
        final int[] before = new int[MOST_NAMES + 1];
        int things;
        final int[] asserted = new int[MOST_ASSERTIONS];
        int assertions;
        private final int[] kept = new int[5];

        int size() {
            return before[things];
        }

        /** How many bits of an interpretation of a size stand below those of a thing. */
        int shift(int thing, int size) {
            return size - before[thing + 1];
        }

        void keep() {
            kept[0] = terms.made;
            kept[1] = terms.weight;
            kept[2] = names;
            kept[3] = things;
            kept[4] = assertions;
        }

        void goBack() {
            terms.made = kept[0];
            terms.weight = kept[1];
            names = kept[2];
            things = kept[3];
            assertions = kept[4];
        }

        boolean hasRoomForName(int bytes) {
            return names < MOST_NAMES && bytes <= NAME_BYTES - nameFirst[names];
        }

        /** Asked for only where there is room. */
        void addName(Text from, int begin, int end, int term) {
            int at = nameFirst[names];
            for (int i = begin; i < end; i++) {
                letters[at] = from.bytes[i];
                at++;
            }
            nameTerm[names] = term;
            names++;
            nameFirst[names] = at;
        }

        /** For a term that gets the next name: there are never more things than names. */
        void addThing(int term) {
            terms.low[term] = things;
            thingTerm[things] = term;
            thingName[things] = names;
            before[things + 1] = before[things] + Sorts.size(terms.sort[term]);
            things++;
        }

        /** The name that the word is that was read last. */
        int findName(Text from) {
            for (int n = 0; n < names; n++) {
                int length = nameFirst[n + 1] - nameFirst[n];
                if (length == from.end - from.begin && isName(n, from)) {
                    return n;
                }
            }
            return NONE;
        }

        private boolean isName(int n, Text from) {
            int at = from.begin;
            for (int i = nameFirst[n]; i < nameFirst[n + 1]; i++) {
                if (letters[i] != from.bytes[at]) {
                    return false;
                }
                at++;
            }
            return true;
        }
    }

    /**
     * The text. It is split into words and brackets first, up to the first that is BAD, and the reader
     * goes through these one by one: it wants none behind a bad one, as that fits nowhere.
     */
    private static final class Text {
        private static final String OTHER_SIGNS = "~!@$%^&*_-+=<>.?/#";
        private static final int END_SHIFT = 20;
        private static final int KIND_SHIFT = 40;
        private static final int RESERVED_SHIFT = 48;
        private static final int PLACE_BITS = 0xFFFFF;
        private static final int BYTE_BITS = 0xFF;

        final byte[] bytes = new byte[TEXT_BYTES];
        int length;
        int faultKind;
        int faultPlace = NONE;
        /** One number for each word and bracket, and for the text's end or what is bad. */
        private final long[] pieces = new long[TEXT_BYTES + 1];
        private int pieceCount;
        private int nextPiece;
        private int open;
        /** Where each of the reserved words begins in their row, and where that ends. */
        private final int[] reservedFrom = new int[RESERVED_WORDS + 1];
        /** Of the word or bracket that was read last: what it is and where, and its reserved number. */
        int kind;
        int begin;
        int end;
        int reserved;

        Text() {
            int n = 0;
            for (int i = 0; i < RESERVED.length() && n < RESERVED_WORDS; i++) {
                if (RESERVED.charAt(i) == ' ') {
                    n++;
                    reservedFrom[n] = i + 1;
                }
            }
        }

        /** Asked for only where there is room. */
        void append(int four) {
            for (int shift = 24; shift >= 0 && length < TEXT_BYTES; shift -= 8) {
                bytes[length] = (byte) (four >> shift);
                length++;
            }
        }

        void split() {
            pieceCount = 0;
            open = 0;
            end = 0;
            kind = OPEN;
            while (pieceCount <= length && kind < BAD) {
                skipBlanks();
                begin = end;
                reserved = NONE;
                kind = cutPiece();
                keepPiece();
            }
            nextPiece = 0;
            faultKind = 0;
            faultPlace = NONE;
        }

        private void skipBlanks() {
            boolean remark = false;
            while (end < length) {
                int sign = bytes[end];
                if (sign == 10) {
                    remark = false;
                } else if (sign == ';') {
                    remark = true;
                } else if (!remark && sign != 9 && sign != 13 && sign != 32) {
                    return;
                }
                end++;
            }
        }

        private int cutPiece() {
            if (end >= length) {
                return BAD + FAULT_END;
            }
            int sign = bytes[end];
            if (sign == '(') {
                open++;
                end++;
                return open > MOST_OPEN ? BAD + FAULT_DEEP : OPEN;
            }
            if (sign == ')') {
                open--;
                end++;
                return CLOSE;
            }
            while (end < length && isWordSign(bytes[end])) {
                end++;
            }
            return end == begin ? BAD + FAULT_SIGN : kindOfWord();
        }

        private void keepPiece() {
            long place = begin | ((long) end << END_SHIFT);
            pieces[pieceCount] = place | ((long) kind << KIND_SHIFT) | ((long) (reserved + 1) << RESERVED_SHIFT);
            pieceCount++;
        }

        private static boolean isDigit(int sign) {
            return sign >= '0' && sign <= '9';
        }

        private static boolean isWordSign(int sign) {
            if (isDigit(sign) || (sign >= 'a' && sign <= 'z') || (sign >= 'A' && sign <= 'Z')) {
                return true;
            }
            return sign > 0 && OTHER_SIGNS.indexOf((char) sign) >= 0;
        }

        private int kindOfWord() {
            int sign = bytes[begin];
            if (isDigit(sign)) {
                boolean plain = sign != '0' || end - begin == 1;
                return plain && hasDigits(begin, 10) ? NUMERAL : BAD + FAULT_FORM;
            }
            if (sign != '#') {
                reserved = findReserved();
                return SYMBOL;
            }
            int digits = end - begin - 2;
            int mark = digits < 1 ? 0 : bytes[begin + 1];
            if (mark == 'b' && digits <= MOST_WIDTH && hasDigits(begin + 2, 2)) {
                return BINARY;
            }
            if (mark == 'x' && digits <= MOST_WIDTH / 4 && hasDigits(begin + 2, 16)) {
                return HEX;
            }
            return BAD + FAULT_FORM;
        }

        private boolean hasDigits(int from, int base) {
            for (int i = from; i < end; i++) {
                int digit = digit(bytes[i]);
                if (digit < 0 || digit >= base) {
                    return false;
                }
            }
            return true;
        }

        private static int digit(int sign) {
            if (isDigit(sign)) {
                return sign - '0';
            }
            if (sign >= 'a' && sign <= 'f') {
                return sign - 'a' + 10;
            }
            return sign >= 'A' && sign <= 'F' ? sign - 'A' + 10 : NONE;
        }

        private int findReserved() {
            for (int n = 0; n < RESERVED_WORDS; n++) {
                int from = reservedFrom[n];
                if (reservedFrom[n + 1] - from - 1 == end - begin && isReserved(from)) {
                    return n;
                }
            }
            return NONE;
        }

        /** Asked only where a reserved word of the same length begins. */
        private boolean isReserved(int from) {
            for (int i = begin; i < end; i++) {
                if (bytes[i] != RESERVED.charAt(from + i - begin)) {
                    return false;
                }
            }
            return true;
        }

        /** Whether nothing but blanks is left. */
        boolean isOver() {
            return ((int) (pieces[nextPiece] >> KIND_SHIFT) & BYTE_BITS) == BAD + FAULT_END;
        }

        void next() {
            long piece = pieces[nextPiece];
            begin = (int) piece & PLACE_BITS;
            end = (int) (piece >> END_SHIFT) & PLACE_BITS;
            kind = (int) (piece >> KIND_SHIFT) & BYTE_BITS;
            reserved = ((int) (piece >> RESERVED_SHIFT) & BYTE_BITS) - 1;
            if (nextPiece < pieceCount - 1) {
                nextPiece++;
            }
        }

        int fail(int itsKind, int place) throws IllegalStateException {
            faultKind = itsKind;
            faultPlace = place;
            throw new IllegalStateException("the text has a fault");
        }

        /** What was read last does not fit there; if it is bad, that comes before all else. */
        int failHere() throws IllegalStateException {
            faultKind = kind >= BAD ? kind - BAD : FAULT_OTHER;
            faultPlace = begin;
            throw new IllegalStateException("the text has a fault");
        }

        /** What a numeral is, or more than an int can be. */
        long numeral() {
            long sum = 0L;
            for (int i = begin; i < end && sum <= Integer.MAX_VALUE; i++) {
                sum = 10L * sum + bytes[i] - '0';
            }
            return sum;
        }

        /** What a binary or hex word is. */
        long constant() {
            int shift = kind == BINARY ? 1 : 4;
            long sum = 0L;
            for (int i = begin + 2; i < end; i++) {
                sum = (sum << shift) | digit(bytes[i]);
            }
            return sum;
        }

        int constantWidth() {
            return (end - begin - 2) * (kind == BINARY ? 1 : 4);
        }

        /** Whether the word that was read last stands in another place, too. */
        boolean isSame(int otherBegin, int otherEnd) {
            if (end - begin != otherEnd - otherBegin) {
                return false;
            }
            for (int i = begin; i < end; i++) {
                if (bytes[i] != bytes[otherBegin + i - begin]) {
                    return false;
                }
            }
            return true;
        }
    }

    /** Reads the commands of a text into the book. */
    private static final class Reader {
        private final Text text;
        private final Book book;
        private final Terms terms;
        /** The arguments of all applications that are just being read. */
        private final int[] stack = new int[MOST_OPEN * MOST_ARGUMENTS];
        private int top;
        private final int[] boundBegin = new int[MOST_BOUND];
        private final int[] boundEnd = new int[MOST_BOUND];
        private final int[] boundTerm = new int[MOST_BOUND];
        /** Not while the bindings of its own let are being read. */
        private final boolean[] boundShown = new boolean[MOST_BOUND];
        private int bound;
        /** The numerals of the ( _ .. ) before the application that is looked at. */
        private int high;
        private int low;

        Reader(Text itsText, Book itsBook) {
            text = itsText;
            book = itsBook;
            terms = itsBook.terms;
        }

        int wholeText() {
            text.split();
            book.keep();
            top = 0;
            bound = 0;
            int many = NONE;
            try {
                many = commands();
            } catch (IllegalStateException e) {
                book.goBack();
            }
            text.length = 0;
            return many;
        }

        private int commands() throws IllegalStateException {
            int many = 0;
            while (many < TEXT_BYTES && !text.isOver()) {
                expect(OPEN);
                text.next();
                switch (text.reserved) {
                    case DECLARE_CONST: declare(); break;
                    case DEFINE_FUN: define(); break;
                    case ASSERT: affirm(); break;
                    default: text.failHere();
                }
                expect(CLOSE);
                many++;
            }
            return many;
        }

        private void expect(int kind) throws IllegalStateException {
            text.next();
            if (text.kind != kind) {
                text.failHere();
            }
        }

        private void expectReserved(int reserved) throws IllegalStateException {
            text.next();
            if (text.reserved != reserved) {
                text.failHere();
            }
        }

        private void declare() throws IllegalStateException {
            expectNewName();
            int begin = text.begin;
            int end = text.end;
            int sort = sort();
            int term = make(begin, THING, sort, Sorts.size(sort), 0L);
            book.addThing(term);
            book.addName(text, begin, end, term);
        }

        private void define() throws IllegalStateException {
            expectNewName();
            int begin = text.begin;
            int end = text.end;
            expect(OPEN);
            expect(CLOSE);
            int sort = sort();
            text.next();
            int termBegin = text.begin;
            int term = term();
            if (terms.sort[term] != sort) {
                text.fail(FAULT_SORTS, termBegin);
            }
            book.addName(text, begin, end, term);
        }

        private void affirm() throws IllegalStateException {
            text.next();
            int begin = text.begin;
            int term = term();
            if (terms.sort[term] != Sorts.BOOL) {
                text.fail(FAULT_SORTS, begin);
            }
            if (book.assertions >= MOST_ASSERTIONS) {
                text.fail(FAULT_FULL, begin);
                return;
            }
            book.asserted[book.assertions] = term;
            book.assertions++;
        }

        private void expectNewName() throws IllegalStateException {
            expect(SYMBOL);
            if (text.reserved != NONE || book.findName(text) != NONE) {
                text.fail(FAULT_TAKEN, text.begin);
            }
            if (!book.hasRoomForName(text.end - text.begin)) {
                text.fail(FAULT_FULL, text.begin);
            }
        }

        private int sort() throws IllegalStateException {
            text.next();
            if (text.reserved == BOOL) {
                return Sorts.BOOL;
            }
            if (text.kind != OPEN) {
                return text.failHere();
            }
            text.next();
            if (text.reserved == UNDERSCORE) {
                return width(MOST_WIDTH);
            }
            if (text.reserved != ARRAY) {
                return text.failHere();
            }
            expect(OPEN);
            expectReserved(UNDERSCORE);
            int indexWidth = width(MOST_INDEX_WIDTH);
            expect(OPEN);
            expectReserved(UNDERSCORE);
            int width = width(MOST_WIDTH);
            expect(CLOSE);
            return Sorts.array(indexWidth, width);
        }

        /** What stands behind the _ of a vector's sort, with the end bracket. */
        private int width(int most) throws IllegalStateException {
            expectReserved(BIT_VEC);
            int width = numeral();
            if (width < 1 || width > most) {
                return text.fail(FAULT_NUMBER, text.begin);
            }
            expect(CLOSE);
            return width;
        }

        private int numeral() throws IllegalStateException {
            text.next();
            if (text.kind != NUMERAL) {
                return text.failHere();
            }
            long number = text.numeral();
            if (number > Integer.MAX_VALUE) {
                return text.fail(FAULT_NUMBER, text.begin);
            }
            return (int) number;
        }

        /** The term that begins with what was read last. It goes no deeper than brackets may be open. */
        private int term() throws IllegalStateException {
            switch (text.kind) {
                case SYMBOL:
                    if (text.reserved == TRUE || text.reserved == FALSE) {
                        return make(text.begin, CONSTANT, Sorts.BOOL, 1, text.reserved == TRUE ? 1L : 0L);
                    }
                    return symbolTerm();
                case BINARY:
                case HEX:
                    int width = text.constantWidth();
                    return make(text.begin, CONSTANT, width, width, text.constant());
                case OPEN:
                    return bracketTerm();
                default:
                    return text.failHere();
            }
        }

        private int symbolTerm() throws IllegalStateException {
            for (int i = bound - 1; i >= 0; i--) {
                if (boundShown[i] && text.isSame(boundBegin[i], boundEnd[i])) {
                    return boundTerm[i];
                }
            }
            int name = book.findName(text);
            return name == NONE ? text.fail(FAULT_NAME, text.begin) : book.nameTerm[name];
        }

        private int bracketTerm() throws IllegalStateException {
            int begin = text.begin;
            text.next();
            if (text.reserved == LET) {
                return let();
            }
            int op = text.kind == OPEN ? indexedOperator() : plainOperator();
            int itsHigh = high;
            int itsLow = low;
            int base = top;
            readArguments(begin);
            int many = top - base;
            if (!fitsMany(op, many)) {
                return text.fail(FAULT_MANY, begin);
            }
            high = itsHigh;
            low = itsLow;
            int sort = sortOfResult(op, base);
            if (sort == NONE) {
                return text.fail(FAULT_SORTS, begin);
            }
            int weight = weigh(op, Sorts.size(sort), Sorts.size(terms.sort[stack[base]]), many);
            int term = make(begin, op, sort, weight, 0L);
            giveArguments(term, base);
            return term;
        }

        /** Up to the end bracket of an application that begins somewhere. */
        private void readArguments(int begin) throws IllegalStateException {
            text.next();
            for (int many = 0; many <= MOST_ARGUMENTS && text.kind != CLOSE; many++) {
                int argument = term();
                if (many == MOST_ARGUMENTS || top >= stack.length) {
                    text.fail(FAULT_FULL, begin);
                    return;
                }
                stack[top] = argument;
                top++;
                text.next();
            }
        }

        private void giveArguments(int term, int base) {
            if (terms.op[term] == EXTRACT) {
                terms.low[term] = low;
            }
            for (int i = base; i < top; i++) {
                terms.addArgument(term, stack[i]);
            }
            top = base;
        }

        private int plainOperator() throws IllegalStateException {
            return text.reserved < NOT ? text.failHere() : text.reserved;
        }

        private int indexedOperator() throws IllegalStateException {
            expectReserved(UNDERSCORE);
            text.next();
            int op = text.reserved;
            if (op < EXTRACT || op > SIGN_EXTEND) {
                return text.failHere();
            }
            high = numeral();
            low = op == EXTRACT ? numeral() : 0;
            if (low > high) {
                return text.fail(FAULT_NUMBER, text.begin);
            }
            expect(CLOSE);
            return op;
        }

        private static boolean fitsMany(int op, int many) {
            switch (op) {
                case NOT: case BVNOT: case BVNEG:
                case EXTRACT: case ZERO_EXTEND: case SIGN_EXTEND:
                    return many == 1;
                case ITE: case STORE:
                    return many == 3;
                case AND: case OR: case XOR: case IMPLIES: case EQUAL: case DISTINCT:
                case BVAND: case BVOR: case BVXOR: case BVADD: case BVMUL: case CONCAT:
                    return many >= 2;
                default:
                    return many == 2;
            }
        }

        /** The bits are those of a constant. */
        private int make(int begin, int op, int sort, int weight, long bits) throws IllegalStateException {
            if (terms.made >= MOST_TERMS) {
                return text.fail(FAULT_FULL, begin);
            }
            if (weight > MOST_WEIGHT - terms.weight) {
                return text.fail(FAULT_HEAVY, begin);
            }
            terms.weight += weight;
            return terms.add(op, sort, bits);
        }

        /** Of as many arguments as fit; NONE if their sorts don't, or if it were too wide. */
        private int sortOfResult(int op, int base) {
            int first = terms.sort[stack[base]];
            boolean vector = Sorts.isVector(first);
            switch (op) {
                case NOT: case AND: case OR: case XOR: case IMPLIES:
                    return first == Sorts.BOOL && isOneSort(base) ? Sorts.BOOL : NONE;
                case EQUAL: case DISTINCT:
                    return isOneSort(base) ? Sorts.BOOL : NONE;
                case ITE:
                    return first == Sorts.BOOL && isOneSort(base + 1) ? terms.sort[stack[base + 1]] : NONE;
                case CONCAT:
                    return sortOfConcat(base);
                case SELECT: case STORE:
                    return sortOfArrayUse(op, base);
                case EXTRACT:
                    return vector && high < first ? high - low + 1 : NONE;
                case ZERO_EXTEND: case SIGN_EXTEND:
                    return vector && high <= MOST_WIDTH - first ? first + high : NONE;
                case BVULT: case BVULE: case BVUGT: case BVUGE:
                case BVSLT: case BVSLE: case BVSGT: case BVSGE:
                    return vector && isOneSort(base) ? Sorts.BOOL : NONE;
                default:
                    return vector && isOneSort(base) ? first : NONE;
            }
        }

        private boolean isOneSort(int from) {
            for (int i = from + 1; i < top; i++) {
                if (terms.sort[stack[i]] != terms.sort[stack[from]]) {
                    return false;
                }
            }
            return true;
        }

        private int sortOfConcat(int base) {
            int width = 0;
            for (int i = base; i < top; i++) {
                int sort = terms.sort[stack[i]];
                if (!Sorts.isVector(sort)) {
                    return NONE;
                }
                width += sort;
            }
            return width <= MOST_WIDTH ? width : NONE;
        }

        private int sortOfArrayUse(int op, int base) {
            int array = terms.sort[stack[base]];
            if (!Sorts.isArray(array) || terms.sort[stack[base + 1]] != Sorts.indexWidth(array)) {
                return NONE;
            }
            if (op == SELECT) {
                return Sorts.width(array);
            }
            return terms.sort[stack[base + 2]] == Sorts.width(array) ? array : NONE;
        }

        /** By the size of its own sort, that of its first argument's, and how many it has. */
        private static int weigh(int op, int own, int s, int many) {
            switch (op) {
                case NOT: case BVNOT: return s;
                case AND: case OR: case XOR: case IMPLIES:
                case BVAND: case BVOR: case BVXOR: return 4 * s * (many - 1);
                case ITE: return 4 * own;
                case EQUAL: return 5 * s * (many - 1);
                case DISTINCT: return 5 * s * many * (many - 1);
                case BVADD: return 10 * s * (many - 1);
                case BVMUL: return 14 * s * s * (many - 1);
                case BVUDIV: case BVUREM: return 16 * s * s + 32 * s;
                case BVSDIV: case BVSREM: return 16 * s * s + 80 * s;
                case BVSHL: case BVLSHR: case BVASHR: return 30 * s;
                case SELECT: case STORE: return 8 * s;
                case CONCAT: case EXTRACT: case ZERO_EXTEND: case SIGN_EXTEND: return own;
                default: return 10 * s;
            }
        }

        private int let() throws IllegalStateException {
            int base = bound;
            expect(OPEN);
            expect(OPEN);
            for (int many = 0; many <= MOST_BOUND && text.kind == OPEN; many++) {
                bind(base);
                text.next();
            }
            if (text.kind != CLOSE) {
                return text.failHere();
            }
            for (int i = base; i < bound; i++) {
                boundShown[i] = true;
            }
            text.next();
            int term = term();
            bound = base;
            expect(CLOSE);
            return term;
        }

        private void bind(int base) throws IllegalStateException {
            expect(SYMBOL);
            if (text.reserved != NONE || isBoundSince(base)) {
                text.fail(FAULT_TAKEN, text.begin);
            }
            int which = bound;
            if (which >= MOST_BOUND) {
                text.fail(FAULT_FULL, text.begin);
                return;
            }
            boundBegin[which] = text.begin;
            boundEnd[which] = text.end;
            boundShown[which] = false;
            bound++;
            text.next();
            boundTerm[which] = term();
            expect(CLOSE);
        }

        private boolean isBoundSince(int base) {
            for (int i = base; i < bound; i++) {
                if (text.isSame(boundBegin[i], boundEnd[i])) {
                    return true;
                }
            }
            return false;
        }
    }

    /** Works out terms, as the document tells what they are worth; arrays are held as one number. */
    private static final class Evaluator {
        private final Book book;
        private final Terms terms;
        final long[] worth = new long[MOST_TERMS];

        Evaluator(Book itsBook) {
            book = itsBook;
            terms = itsBook.terms;
        }

        /** All terms up to one; for a size that is no more than 16. */
        void evaluate(int interpretation, int size, int last) {
            takeThings(interpretation, size);
            for (int t = 0; t <= last; t++) {
                workOut(t);
            }
        }

        void takeThings(int interpretation, int size) {
            for (int i = 0; i < book.things; i++) {
                int t = book.thingTerm[i];
                worth[t] = (interpretation >>> book.shift(i, size)) & terms.full[t];
            }
        }

        /** From its arguments; a thing has its worth already. */
        void workOut(int t) {
            int op = terms.op[t];
            if (op == CONSTANT) {
                worth[t] = terms.bits[t];
            } else if (op != THING) {
                worth[t] = applied(t, op, terms.first[t]) & terms.full[t];
            }
        }

        private long applied(int t, int op, int first) {
            int a = terms.args[first];
            switch (op) {
                case NOT: case BVNOT: return ~worth[a];
                case BVNEG: return -worth[a];
                case ITE: return worth[terms.args[worth[a] != 0L ? first + 1 : first + 2]];
                case IMPLIES: return implication(t);
                case EQUAL: return isAllSame(t) ? 1L : 0L;
                case DISTINCT: return isAllOther(t) ? 1L : 0L;
                case AND: case BVAND: case OR: case BVOR: case XOR: case BVXOR: case BVADD: case BVMUL:
                    return folded(t, op);
                case CONCAT: return concat(t);
                case EXTRACT: return worth[a] >>> terms.low[t];
                case ZERO_EXTEND: return worth[a];
                case SIGN_EXTEND: return Words.signed(worth[a], terms.sort[a]);
                case SELECT: return Sorts.cell(terms.sort[a], worth[a], worth[terms.args[first + 1]]);
                case STORE: return store(a, worth[terms.args[first + 1]], worth[terms.args[first + 2]]);
                case BVULT: case BVULE: case BVUGT: case BVUGE:
                case BVSLT: case BVSLE: case BVSGT: case BVSGE:
                    return Words.compare(op, worth[a], worth[terms.args[first + 1]], terms.sort[a]) ? 1L : 0L;
                default: return Words.two(op, worth[a], worth[terms.args[first + 1]], terms.sort[a]);
            }
        }

        private long folded(int t, int op) {
            long all = worth[terms.args[terms.first[t]]];
            for (int i = terms.first[t] + 1; i < terms.first[t + 1]; i++) {
                long b = worth[terms.args[i]];
                switch (op) {
                    case AND: case BVAND: all &= b; break;
                    case OR: case BVOR: all |= b; break;
                    case XOR: case BVXOR: all ^= b; break;
                    case BVADD: all += b; break;
                    default: all *= b;
                }
            }
            return all;
        }

        private long implication(int t) {
            long all = worth[terms.args[terms.first[t + 1] - 1]];
            for (int i = terms.first[t + 1] - 2; i >= terms.first[t]; i--) {
                all |= ~worth[terms.args[i]];
            }
            return all;
        }

        private boolean isAllSame(int t) {
            for (int i = terms.first[t] + 1; i < terms.first[t + 1]; i++) {
                if (worth[terms.args[i]] != worth[terms.args[i - 1]]) {
                    return false;
                }
            }
            return true;
        }

        private boolean isAllOther(int t) {
            for (int i = terms.first[t] + 1; i < terms.first[t + 1]; i++) {
                for (int j = terms.first[t]; j < i; j++) {
                    if (worth[terms.args[i]] == worth[terms.args[j]]) {
                        return false;
                    }
                }
            }
            return true;
        }

        private long concat(int t) {
            long all = 0L;
            for (int i = terms.first[t]; i < terms.first[t + 1]; i++) {
                int a = terms.args[i];
                all = (all << terms.sort[a]) | worth[a];
            }
            return all;
        }

        private long store(int array, long index, long vector) {
            int sort = terms.sort[array];
            int shift = Sorts.cellShift(sort, index);
            long cell = Words.mask(Sorts.width(sort)) << shift;
            return (worth[array] & ~cell) | (vector << shift);
        }
    }

    /**
     * Tells why a goal is false: which bits of the interpretation make it so, whatever the others are.
     * It goes from the goal back to the things, and asks of each term for those bits alone that count.
     */
    private static final class Learner {
        private final Book book;
        private final Terms terms;
        private final long[] worth;
        /** On which bits of the interpretation each term depends at all. */
        private final int[] depends;
        /** The bits of each term that are still to be explained. */
        private final long[] asked = new long[MOST_TERMS];
        private int size;
        private int mask;

        Learner(Book itsBook, long[] itsWorth, int[] itsDepends) {
            book = itsBook;
            terms = itsBook.terms;
            worth = itsWorth;
            depends = itsDepends;
        }

        int explain(int goal, int itsSize) {
            size = itsSize;
            mask = 0;
            ask(goal, 1L);
            for (int t = goal; t >= terms.lowest[goal]; t--) {
                long bits = asked[t];
                if (bits != 0L) {
                    asked[t] = 0L;
                    explainTerm(t, terms.args[terms.first[t]], bits);
                }
            }
            return mask;
        }

        private void ask(int t, long bits) {
            if (terms.op[t] == THING) {
                mask |= (int) bits << (size - book.before[terms.low[t] + 1]);
            } else if (terms.op[t] != CONSTANT) {
                asked[t] |= bits;
            }
        }

        private void askAll(int t, long bits) {
            for (int i = terms.first[t]; i < terms.first[t + 1]; i++) {
                ask(terms.args[i], bits);
            }
        }

        private void explainTerm(int t, int a, long bits) {
            switch (terms.op[t]) {
                case NOT: case BVNOT: ask(a, bits); break;
                case AND: case BVAND: explainBitwise(t, bits & worth[t], bits & ~worth[t], -1L); break;
                case OR: case BVOR: explainBitwise(t, bits & ~worth[t], bits & worth[t], 0L); break;
                case XOR: case BVXOR: askAll(t, bits); break;
                case IMPLIES: explainImplication(t); break;
                case ITE: explainIte(t, a, bits); break;
                case EQUAL: explainEqual(t, a); break;
                case DISTINCT: explainDistinct(t); break;
                case BVNEG: case BVADD: case BVSUB: askAll(t, Words.upToHighest(bits)); break;
                case BVMUL: explainProduct(t, Words.upToHighest(bits)); break;
                case BVUDIV: case BVUREM: case BVSDIV: case BVSREM: askAll(t, terms.full[a]); break;
                case BVSHL: case BVLSHR: explainShift(t, a, bits); break;
                case BVASHR: explainSignedShift(t, a, bits); break;
                case CONCAT: explainConcat(t, bits); break;
                case EXTRACT: ask(a, bits << terms.low[t]); break;
                case ZERO_EXTEND: ask(a, bits & terms.full[a]); break;
                case SIGN_EXTEND: askFilled(a, bits & terms.full[a], (bits & ~terms.full[a]) != 0L); break;
                case SELECT: explainSelect(t, a, bits); break;
                case STORE: explainStore(t, a, bits); break;
                default: explainComparison(t, a);
            }
        }

        /** Some bits hang on all arguments; for the others one is enough whose bit, turned by turn, is 1. */
        private void explainBitwise(int t, long all, long some, long turn) {
            askAll(t, all);
            long rest = some;
            for (int i = terms.first[t]; i < terms.first[t + 1] && rest != 0L; i++) {
                int best = NONE;
                for (int j = terms.first[t]; j < terms.first[t + 1]; j++) {
                    int a = terms.args[j];
                    if ((rest & (worth[a] ^ turn)) != 0L && isBetter(a, best)) {
                        best = a;
                    }
                }
                if (best != NONE) {
                    ask(best, rest & (worth[best] ^ turn));
                    rest &= ~(worth[best] ^ turn);
                }
            }
        }

        /** What hangs on the earlier bits alone rules out more of what is still to come. */
        private boolean isBetter(int a, int best) {
            return best == NONE || Words.trailingZeros(depends[a]) > Words.trailingZeros(depends[best]);
        }

        private void explainImplication(int t) {
            if (worth[t] == 0L) {
                askAll(t, 1L);
                return;
            }
            int last = terms.first[t + 1] - 1;
            int best = NONE;
            for (int i = terms.first[t]; i <= last; i++) {
                int a = terms.args[i];
                if (worth[a] == (i == last ? 1L : 0L) && isBetter(a, best)) {
                    best = a;
                }
            }
            if (best != NONE) {
                ask(best, 1L);
            }
        }

        private void explainIte(int t, int a, long bits) {
            ask(a, 1L);
            ask(terms.args[terms.first[t] + (worth[a] != 0L ? 1 : 2)], bits);
        }

        /** A factor that ends in as many zeros does alone. */
        private void explainProduct(int t, long bits) {
            int best = NONE;
            for (int i = terms.first[t]; i < terms.first[t + 1]; i++) {
                int a = terms.args[i];
                if ((worth[a] & bits) == 0L && isBetter(a, best)) {
                    best = a;
                }
            }
            if (best != NONE) {
                ask(best, bits);
            } else {
                askAll(t, bits);
            }
        }

        private void explainEqual(int t, int a) {
            if (worth[t] != 0L) {
                askAll(t, terms.full[a]);
                return;
            }
            for (int i = terms.first[t] + 1; i < terms.first[t + 1]; i++) {
                if (worth[terms.args[i]] != worth[a]) {
                    explainDifference(a, terms.args[i]);
                    return;
                }
            }
        }

        private void explainDistinct(int t) {
            for (int i = terms.first[t] + 1; i < terms.first[t + 1]; i++) {
                for (int j = terms.first[t]; j < i; j++) {
                    int a = terms.args[i];
                    int b = terms.args[j];
                    if (worth[t] != 0L) {
                        explainDifference(a, b);
                    } else if (worth[a] == worth[b]) {
                        ask(a, terms.full[a]);
                        ask(b, terms.full[b]);
                        return;
                    }
                }
            }
        }

        /** Carries run upwards, so that the lowest bit of a sum hangs on least; else the highest is best. */
        private void explainDifference(int a, int b) {
            long bits = worth[a] ^ worth[b];
            long upTo = Words.upToHighest(bits);
            long one = terms.carries[a] || terms.carries[b] ? bits & -bits : upTo ^ (upTo >>> 1);
            ask(a, one);
            ask(b, one);
        }

        private void explainShift(int t, int a, long bits) {
            int by = terms.args[terms.first[t] + 1];
            ask(by, terms.full[by]);
            if (Words.less(worth[by], terms.sort[a])) {
                int shift = (int) worth[by];
                ask(a, terms.op[t] == BVSHL ? bits >>> shift : (bits << shift) & terms.full[a]);
            }
        }

        private void explainSignedShift(int t, int a, long bits) {
            int by = terms.args[terms.first[t] + 1];
            ask(by, terms.full[by]);
            int shift = Words.signShift(worth[by], terms.sort[a]);
            askFilled(a, (bits << shift) & terms.full[a], (bits & ~(terms.full[a] >>> shift)) != 0L);
        }

        /** With the highest bit if that fills others. */
        private void askFilled(int a, long bits, boolean filled) {
            ask(a, filled ? bits | (terms.full[a] ^ (terms.full[a] >>> 1)) : bits);
        }

        private void explainConcat(int t, long bits) {
            long rest = bits;
            for (int i = terms.first[t + 1] - 1; i >= terms.first[t]; i--) {
                int a = terms.args[i];
                ask(a, rest & terms.full[a]);
                rest >>>= terms.sort[a];
            }
        }

        private void explainSelect(int t, int a, long bits) {
            int index = terms.args[terms.first[t] + 1];
            ask(index, terms.full[index]);
            ask(a, bits << Sorts.cellShift(terms.sort[a], worth[index]));
        }

        private void explainStore(int t, int a, long bits) {
            int index = terms.args[terms.first[t] + 1];
            int vector = terms.args[terms.first[t] + 2];
            int shift = Sorts.cellShift(terms.sort[a], worth[index]);
            ask(index, terms.full[index]);
            ask(vector, (bits >>> shift) & terms.full[vector]);
            ask(a, bits & ~(terms.full[vector] << shift));
        }

        /** The bits from the highest one that differs on decide it; all of them if none does. */
        private void explainComparison(int t, int a) {
            long differing = worth[a] ^ worth[terms.args[terms.first[t] + 1]];
            askAll(t, terms.full[a] & ~(Words.upToHighest(differing) >>> 1));
        }
    }

    /**
     * Looks through what was learned, by means of its own: it works terms out of which some bits are
     * known and others not, and knows a bit of a result only where the unknown ones don't count.
     */
    private static final class Checker {
        private final Book book;
        private final Terms terms;
        private final long[] known = new long[MOST_TERMS];
        /** 0 where a bit is not known. */
        private final long[] ones = new long[MOST_TERMS];
        private final byte[] marked = new byte[MOST_TERMS];

        Checker(Book itsBook) {
            book = itsBook;
            terms = itsBook.terms;
        }

        /** Whether a goal is false wherever the bits of the mask are those that are held. */
        boolean followsFalse(int goal, int mask, int held, int size) {
            for (int i = 0; i < book.things; i++) {
                int t = book.thingTerm[i];
                int shift = book.shift(i, size);
                learn(t, (mask >>> shift) & terms.full[t], held >>> shift);
            }
            terms.markCone(goal, marked);
            for (int t = terms.lowest[goal]; t <= goal; t++) {
                if (marked[t] != 0) {
                    marked[t] = 0;
                    workOut(t, terms.first[t]);
                }
            }
            return known[goal] != 0L && ones[goal] == 0L;
        }

        /** Whether all that has the bits that are held is less than the start. */
        boolean followsBound(int mask, int held, int start, int size) {
            int free = ((1 << size) - 1) & ~mask;
            return (held | free) < start;
        }

        /**
         * Whether one nogood follows from two: that is so if they say the same of all bits of which
         * both say something, but for one, and it has all the others of both.
         */
        boolean followsBoth(int bit, int mask, int held, int otherMask, int otherHeld, int joined) {
            boolean contrary = (mask & otherMask & (held ^ otherHeld)) == bit;
            return contrary && joined == ((mask | otherMask) & ~bit);
        }

        private void learn(int t, long itsKnown, long itsOnes) {
            known[t] = itsKnown;
            ones[t] = itsOnes & itsKnown;
        }

        private void learnEither(int t, boolean yes, boolean no) {
            learn(t, yes || no ? 1L : 0L, yes ? 1L : 0L);
        }

        private boolean isKnown(int t) {
            return known[t] == terms.full[t];
        }

        private void workOut(int t, int first) {
            int op = terms.op[t];
            switch (op) {
                case THING: break;
                case CONSTANT: learn(t, terms.full[t], terms.bits[t]); break;
                case NOT: case BVNOT: learn(t, known[terms.args[first]], ~ones[terms.args[first]]); break;
                case AND: case BVAND: workOutAnd(t); break;
                case OR: case BVOR: case IMPLIES: workOutOr(t, op == IMPLIES); break;
                case XOR: case BVXOR: workOutXor(t); break;
                case ITE: workOutIte(t, terms.args[first], terms.args[first + 1], terms.args[first + 2]); break;
                case EQUAL: workOutEqual(t); break;
                case DISTINCT: workOutDistinct(t); break;
                case BVADD: workOutSum(t); break;
                case BVMUL: workOutProduct(t); break;
                case CONCAT: workOutConcat(t); break;
                case BVNEG: case EXTRACT: case ZERO_EXTEND: case SIGN_EXTEND:
                    workOutOfOne(t, terms.args[first]);
                    break;
                case BVSUB: workOutDifference(t, terms.args[first], terms.args[first + 1]); break;
                case BVUDIV: case BVUREM: case BVSDIV: case BVSREM:
                    workOutDivision(t, terms.args[first], terms.args[first + 1]);
                    break;
                case BVSHL: case BVLSHR: case BVASHR:
                    workOutShift(t, terms.args[first], terms.args[first + 1]);
                    break;
                case SELECT: workOutSelect(t, terms.args[first], terms.args[first + 1]); break;
                case STORE: workOutStore(t, terms.args[first], terms.args[first + 1], terms.args[first + 2]); break;
                default: workOutComparison(t, terms.args[first], terms.args[first + 1]);
            }
        }

        private void workOutAnd(int t) {
            long all = terms.full[t];
            long zeros = 0L;
            for (int i = terms.first[t]; i < terms.first[t + 1]; i++) {
                int a = terms.args[i];
                all &= ones[a];
                zeros |= known[a] & ~ones[a];
            }
            learn(t, all | zeros, all);
        }

        /** In an implication all arguments but the last one count as turned. */
        private void workOutOr(int t, boolean implication) {
            long some = 0L;
            long zeros = terms.full[t];
            int last = terms.first[t + 1] - 1;
            for (int i = terms.first[t]; i <= last; i++) {
                int a = terms.args[i];
                long turn = implication && i < last ? known[a] : 0L;
                some |= ones[a] ^ turn;
                zeros &= known[a] & ~(ones[a] ^ turn);
            }
            learn(t, some | zeros, some);
        }

        private void workOutXor(int t) {
            long both = terms.full[t];
            long sum = 0L;
            for (int i = terms.first[t]; i < terms.first[t + 1]; i++) {
                both &= known[terms.args[i]];
                sum ^= ones[terms.args[i]];
            }
            learn(t, both, sum);
        }

        private void workOutIte(int t, int a, int yes, int no) {
            if (isKnown(a)) {
                int taken = ones[a] != 0L ? yes : no;
                learn(t, known[taken], ones[taken]);
            } else {
                learn(t, known[yes] & known[no] & ~(ones[yes] ^ ones[no]), ones[yes]);
            }
        }

        private boolean isSurelyOther(int a, int b) {
            return (known[a] & known[b] & (ones[a] ^ ones[b])) != 0L;
        }

        private boolean isSurelySame(int a, int b) {
            return isKnown(a) && isKnown(b) && ones[a] == ones[b];
        }

        private void workOutEqual(int t) {
            int a = terms.args[terms.first[t]];
            boolean same = true;
            boolean other = false;
            for (int i = terms.first[t] + 1; i < terms.first[t + 1]; i++) {
                same &= isSurelySame(a, terms.args[i]);
                other |= isSurelyOther(a, terms.args[i]);
            }
            learnEither(t, same, other);
        }

        private void workOutDistinct(int t) {
            boolean same = false;
            boolean other = true;
            for (int i = terms.first[t] + 1; i < terms.first[t + 1]; i++) {
                for (int j = terms.first[t]; j < i; j++) {
                    same |= isSurelySame(terms.args[i], terms.args[j]);
                    other &= isSurelyOther(terms.args[i], terms.args[j]);
                }
            }
            learnEither(t, other, same);
        }

        /** Up to the lowest bit that is not known a sum is known, as carries run upwards. */
        private void workOutSum(int t) {
            long run = terms.full[t];
            long sum = 0L;
            for (int i = terms.first[t]; i < terms.first[t + 1]; i++) {
                run &= Words.lowestRun(known[terms.args[i]]);
                sum += ones[terms.args[i]];
            }
            learn(t, run, sum);
        }

        private void workOutDifference(int t, int a, int b) {
            learn(t, Words.lowestRun(known[a] & known[b]), ones[a] - ones[b]);
        }

        /** Zeros at the end of one factor shift the unknown bits of the other one up. */
        private void workOutProduct(int t) {
            long run = terms.full[t];
            long product = 1L;
            for (int i = terms.first[t]; i < terms.first[t + 1]; i++) {
                int a = terms.args[i];
                long itsRun = Words.lowestRun(known[a]);
                int itsZeros = Long.bitCount(Words.lowestRun(known[a] & ~ones[a]));
                int zeros = Long.bitCount(Words.lowestRun(run & ~product));
                int bits = Math.min(Long.bitCount(run) + itsZeros, Long.bitCount(itsRun) + zeros);
                product = (product & run) * (ones[a] & itsRun);
                run = Words.mask(bits) & terms.full[t];
            }
            learn(t, run, product);
        }

        private void workOutOfOne(int t, int a) {
            int width = terms.sort[a];
            switch (terms.op[t]) {
                case BVNEG:
                    learn(t, Words.lowestRun(known[a]), -ones[a]);
                    break;
                case EXTRACT:
                    learn(t, (known[a] >>> terms.low[t]) & terms.full[t], ones[a] >>> terms.low[t]);
                    break;
                case ZERO_EXTEND:
                    learn(t, known[a] | (terms.full[t] & ~terms.full[a]), ones[a]);
                    break;
                default:
                    learn(t, Words.signed(known[a], width) & terms.full[t], Words.signed(ones[a], width));
            }
        }

        private void workOutDivision(int t, int a, int b) {
            if (isKnown(a) && isKnown(b)) {
                learn(t, terms.full[t], Words.two(terms.op[t], ones[a], ones[b], terms.sort[t]));
            } else {
                learn(t, 0L, 0L);
            }
        }

        private void workOutShift(int t, int a, int by) {
            int width = terms.sort[t];
            long full = terms.full[t];
            int shift = Words.signShift(ones[by], width);
            if (!isKnown(by)) {
                learn(t, 0L, 0L);
            } else if (terms.op[t] == BVASHR) {
                learn(t, (Words.signed(known[a], width) >> shift) & full, Words.signed(ones[a], width) >> shift);
            } else if (!Words.less(ones[by], width)) {
                learn(t, full, 0L);
            } else if (terms.op[t] == BVSHL) {
                learn(t, ((known[a] << shift) | Words.mask(shift)) & full, ones[a] << shift);
            } else {
                learn(t, (known[a] >>> shift) | (full & ~(full >>> shift)), ones[a] >>> shift);
            }
        }

        /** By the least and the greatest number that each of the two may be. */
        private void workOutComparison(int t, int a, int b) {
            int op = terms.op[t];
            long turn = Words.turned(op, terms.sort[a]);
            long leastA = ones[a] ^ (turn & known[a]);
            long mostA = leastA | (terms.full[a] & ~known[a]);
            long leastB = ones[b] ^ (turn & known[b]);
            long mostB = leastB | (terms.full[b] & ~known[b]);
            boolean less = Words.less(mostA, leastB);
            boolean notLess = !Words.less(leastA, mostB);
            boolean greater = Words.less(mostB, leastA);
            boolean notGreater = !Words.less(leastB, mostA);
            switch (op) {
                case BVULT: case BVSLT: learnEither(t, less, notLess); break;
                case BVULE: case BVSLE: learnEither(t, notGreater, greater); break;
                case BVUGT: case BVSGT: learnEither(t, greater, notGreater); break;
                default: learnEither(t, notLess, less);
            }
        }

        private void workOutConcat(int t) {
            long all = 0L;
            long sum = 0L;
            for (int i = terms.first[t]; i < terms.first[t + 1]; i++) {
                int a = terms.args[i];
                all = (all << terms.sort[a]) | known[a];
                sum = (sum << terms.sort[a]) | ones[a];
            }
            learn(t, all, sum);
        }

        private void workOutSelect(int t, int a, int index) {
            if (isKnown(index)) {
                int shift = Sorts.cellShift(terms.sort[a], ones[index]);
                learn(t, (known[a] >>> shift) & terms.full[t], ones[a] >>> shift);
            } else {
                learn(t, 0L, 0L);
            }
        }

        private void workOutStore(int t, int a, int index, int vector) {
            if (isKnown(index)) {
                int shift = Sorts.cellShift(terms.sort[t], ones[index]);
                long others = ~(terms.full[vector] << shift);
                learn(t, (known[a] & others) | (known[vector] << shift), (ones[a] & others) | (ones[vector] << shift));
            } else {
                learn(t, 0L, 0L);
            }
        }
    }

    /**
     * Looks for the least interpretation from a start on, upwards. Where a goal is false it learns a
     * NOGOOD, some bits that no right interpretation has together, goes on at the next one that has
     * not all of them, and joins the nogoods for both values of a bit into one without that bit.
     */
    private static final class Search {
        private final Book book;
        private final Terms terms;
        private final Evaluator evaluator;
        private final Learner learner;
        private final Checker checker;
        private final int[] depends = new int[MOST_TERMS];
        private final int[] goals = new int[MOST_ASSERTIONS + 1];
        private int goalCount;
        /** The terms that goal g has and those before it have not: steps up to stepEnd[g]. */
        private final int[] steps = new int[MOST_TERMS];
        private final int[] stepEnd = new int[MOST_ASSERTIONS + 1];
        /** The interpretation for which the steps of a goal were worked out last. */
        private final int[] stepsAt = new int[MOST_ASSERTIONS + 1];
        private final byte[] marked = new byte[MOST_TERMS];
        private final byte[] listed = new byte[MOST_TERMS];
        /** For each bit that is 1 now: the nogood by which it is not 0, its mask and its bits. */
        private final int[] nogoodMask = new int[MOST_SIZE];
        private final int[] nogoodHeld = new int[MOST_SIZE];
        private int size;
        private int allBits;
        int refusedOnes;

        Search(Book itsBook) {
            book = itsBook;
            terms = itsBook.terms;
            evaluator = new Evaluator(itsBook);
            learner = new Learner(itsBook, evaluator.worth, depends);
            checker = new Checker(itsBook);
        }

        /** NONE if there is none from the start on; for a size that is no more than 16. */
        int least(int start, int itsSize, int supposed) {
            size = itsSize;
            allBits = (1 << size) - 1;
            if (start > allBits) {
                return NONE;
            }
            findDependencies();
            orderGoals(supposed);
            listSteps(start);
            learnBound(start);
            int at = start;
            for (int tries = 0; tries <= allBits && at != NONE; tries++) {
                int goal = falseGoal(at);
                if (goal == NONE) {
                    return at;
                }
                int mask = learner.explain(goal, size);
                // With all bits it says no more than was tried, and needs no look.
                if (mask != allBits && !checker.followsFalse(goal, mask, at & mask, size)) {
                    refusedOnes++;
                    mask = allBits;
                }
                at = nextAfter(at, mask);
            }
            return NONE;
        }

        private void findDependencies() {
            for (int t = 0; t < terms.made; t++) {
                int all = 0;
                if (terms.op[t] == THING) {
                    all = (int) terms.full[t] << book.shift(terms.low[t], size);
                }
                for (int i = terms.first[t]; i < terms.first[t + 1]; i++) {
                    all |= depends[terms.args[i]];
                }
                depends[t] = all;
            }
        }

        /** Those that hang on the earlier bits alone come first: where they are false more is ruled out. */
        private void orderGoals(int supposed) {
            goalCount = 0;
            for (int zeros = 32; zeros >= 0; zeros--) {
                for (int i = 0; i < book.assertions; i++) {
                    addGoal(book.asserted[i], zeros);
                }
                if (supposed != NONE) {
                    addGoal(supposed, zeros);
                }
            }
        }

        private void addGoal(int goal, int zeros) {
            if (Words.trailingZeros(depends[goal]) == zeros && goalCount < goals.length) {
                goals[goalCount] = goal;
                goalCount++;
            }
        }

        /** All are worked out once, as what hangs on no bit never is again. */
        private void listSteps(int start) {
            for (int t = 0; t < terms.made; t++) {
                listed[t] = 0;
            }
            evaluator.takeThings(start, size);
            int end = 0;
            for (int g = 0; g < goalCount; g++) {
                int goal = goals[g];
                terms.markCone(goal, marked);
                for (int t = terms.lowest[goal]; t <= goal; t++) {
                    if (marked[t] != 0 && listed[t] == 0) {
                        listed[t] = 1;
                        steps[end] = t;
                        end++;
                        evaluator.workOut(t);
                    }
                    marked[t] = 0;
                }
                stepEnd[g] = end;
                stepsAt[g] = start;
            }
        }

        /** What is less than the start counts as ruled out. */
        private void learnBound(int start) {
            for (int p = 0; p < size; p++) {
                int bit = 1 << p;
                if ((start & bit) != 0) {
                    int above = allBits & ~(2 * bit - 1);
                    nogoodMask[p] = bit | (above & ~start);
                    nogoodHeld[p] = 0;
                    if (!checker.followsBound(nogoodMask[p], 0, start, size)) {
                        refusedOnes++;
                        nogoodMask[p] = bit | above;
                        nogoodHeld[p] = start & above;
                    }
                }
            }
        }

        /** A goal that is false; only what hangs on bits that have changed is worked out anew. */
        private int falseGoal(int at) {
            evaluator.takeThings(at, size);
            int from = 0;
            for (int g = 0; g < goalCount; g++) {
                int changed = at ^ stepsAt[g];
                stepsAt[g] = at;
                for (int i = from; i < stepEnd[g]; i++) {
                    if ((depends[steps[i]] & changed) != 0) {
                        evaluator.workOut(steps[i]);
                    }
                }
                if (evaluator.worth[goals[g]] == 0L) {
                    return goals[g];
                }
                from = stepEnd[g];
            }
            return NONE;
        }

        /** The least interpretation above one that the nogoods leave, or NONE. */
        private int nextAfter(int at, int mask) {
            int rest = mask;
            for (int p = 0; p < size; p++) {
                int bit = 1 << p;
                if ((rest & bit) != 0 && (at & bit) == 0) {
                    nogoodMask[p] = rest;
                    nogoodHeld[p] = at & rest;
                    return (at | bit) & -bit;
                }
                if ((rest & bit) != 0) {
                    rest = join(p, at, rest);
                }
            }
            return NONE;
        }

        private int join(int p, int at, int mask) {
            int bit = 1 << p;
            int joined = (mask | nogoodMask[p]) & ~bit;
            if (checker.followsBoth(bit, mask, at & mask, nogoodMask[p], nogoodHeld[p], joined)) {
                return joined;
            }
            refusedOnes++;
            return allBits & ~(2 * bit - 1);
        }
    }
}
