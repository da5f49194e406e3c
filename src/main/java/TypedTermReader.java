/**
 * Reads terms of higher-order logic: it takes texts apart, finds out what names are, finds the
 * most general types, and shows the term as a row of symbols with types.
 */
public final class TypedTermReader {
    private static final int MAX_BYTES = 8000;
    private static final int MAX_TOKENS = 6000;
    private static final int MAX_DEPTH = 40;
    private static final int MAX_NAME = 24;
    private static final int MAX_NUMERAL = 49;
    private static final int MAX_SYMBOLS = 500;
    private static final int MAX_HEIGHT = 50;
    private static final int MAX_TYPE_SYMBOLS = 40;
    private static final int MAX_TYPE_HEIGHT = 12;
    private static final int MAX_TAKEN = 2;
    private static final int MAX_CONSTANTS = 112;
    /** Functions count here, so this is 3 and 30 and 1. */
    private static final int MAX_TYPES = 34;
    /** 512 calls feed at most 10,240 bytes, in which no more different type names than these fit. */
    private static final int MAX_TYPE_NAMES = 3000;
    private static final int TYPE_NAME_LETTERS = 10240;
    /** Between two tokens that wait there is another one, so half of a text's tokens can wait. */
    private static final int MAX_WAITING = MAX_TOKENS / 2 + 1;
    /**
     * Written types have at most a symbol a token; 500 symbols of a term are at most 250 constants
     * with 40 type symbols each, and two more for each application or abstraction. A text that
     * needs more nodes has a term of more than 500 symbols.
     */
    private static final int MAX_TYPE_NODES = 17000;

    private static final int NO_FAULT = 0;
    private static final int SCAN_FAULT = 1;
    private static final int SYNTAX_FAULT = 2;
    private static final int TYPE_FAULT = 3;
    private static final int NAME_FAULT = 4;
    private static final int LARGE_FAULT = 8;

    private static final int NO_TOKEN = -1;
    private static final int END = 0;
    private static final int NAME = 1;
    private static final int TYPE_NAME = 2;
    private static final int NUMERAL = 3;
    private static final int LEFT = 4;
    private static final int RIGHT = 5;
    private static final int COLON = 6;
    private static final int DOT = 7;
    private static final int ARROW = 8;
    private static final int LAMBDA = 9;
    private static final int FORALL = 10;
    private static final int EXISTS = 11;
    private static final int CHOICE = 12;
    private static final int NOT = 13;
    private static final int IFF = 14;
    private static final int IMPLIES = 15;
    private static final int OR = 16;
    private static final int AND = 17;
    private static final int EQUALS = 18;
    private static final int LESS = 19;
    private static final int AT_MOST = 20;
    private static final int PLUS = 21;
    private static final int TIMES = 22;
    /** A token that no rule of terms or types has a place for. */
    private static final int USELESS = 23;

    /** How strongly = < <= hold; what holds more strongly goes to the left, the rest to the right. */
    private static final int COMPARING = 5;

    private static final String CONSTANT_NAMES = "= T F ~ /\\ \\/ ==> ! ? @ 0 SUC";
    private static final int EQUALS_CONSTANT = 0;
    private static final int NOT_CONSTANT = 3;
    private static final int IMPLIES_CONSTANT = 6;
    private static final int ZERO_CONSTANT = 10;
    private static final int SUC_CONSTANT = 11;

    /** No text can name ->, so functions may stand among the names of types, at their number. */
    private static final String TYPE_NAMES = "bool ind -> num";
    private static final int FUNCTIONS = 2;
    private static final int FIRST_TYPE_NAME = -1000;
    private static final int FIRST_LEFT_OVER = -1;
    /** Far below the number of every type variable. */
    private static final int UNKNOWN = -1000000;

    /** The types of the first twelve constants in prefix order, each behind its length. */
    private static final int[] CONSTANT_TYPES = {
        5, FUNCTIONS, FIRST_TYPE_NAME, FUNCTIONS, FIRST_TYPE_NAME, 0,
        1, 0,
        1, 0,
        3, FUNCTIONS, 0, 0,
        5, FUNCTIONS, 0, FUNCTIONS, 0, 0,
        5, FUNCTIONS, 0, FUNCTIONS, 0, 0,
        5, FUNCTIONS, 0, FUNCTIONS, 0, 0,
        5, FUNCTIONS, FUNCTIONS, FIRST_TYPE_NAME, 0, 0,
        5, FUNCTIONS, FUNCTIONS, FIRST_TYPE_NAME, 0, 0,
        5, FUNCTIONS, FUNCTIONS, FIRST_TYPE_NAME, 0, FIRST_TYPE_NAME,
        1, 3,
        3, FUNCTIONS, 3, 3,
    };

    private static final int APPLICATION = -1;
    private static final int ABSTRACTION = -2;

    private final Text text;
    private final TypeTable types;
    private final TypePool pool;
    private final ConstantTable constants;
    private final TypeReader typeReader;
    private final TermReader termReader;
    private final ShownTerm shown;

    public TypedTermReader() {
        text = new Text();
        types = new TypeTable();
        pool = new TypePool();
        constants = new ConstantTable(types, pool);
        typeReader = new TypeReader(text, types, pool);
        termReader = new TermReader(text, constants, pool, typeReader);
        shown = new ShownTerm();
    }

    public boolean feed(int a, int b, int c, int d, int e) {
        if (text.isFull()) {
            return false;
        }
        text.append(a);
        text.append(b);
        text.append(c);
        text.append(d);
        text.append(e);
        return true;
    }

    public int term(int n) throws IllegalArgumentException {
        if (!text.has(n)) {
            throw new IllegalArgumentException("there are not so many bytes");
        }
        text.open(n);
        pool.clear();
        typeReader.clear();
        termReader.clear();
        int root = termReader.read(0);
        text.expectEnd();
        if (text.isRight()) {
            text.failAsWhole(termReader.faultOf(root));
        }
        if (!text.isRight()) {
            return -1;
        }
        shown.fill(termReader.tree, root, pool);
        return shown.count;
    }

    public int constant(int n) throws IllegalArgumentException {
        if (!text.has(n)) {
            throw new IllegalArgumentException("there are not so many bytes");
        }
        text.open(n);
        pool.clear();
        typeReader.clear();
        return declareConstant();
    }

    public int type(int n) throws IllegalArgumentException {
        if (!text.has(n)) {
            throw new IllegalArgumentException("there are not so many bytes");
        }
        text.open(n);
        return declareType();
    }

    public int fault() {
        return text.fault;
    }

    public int place() {
        return text.place;
    }

    public int symbol(int i) throws IndexOutOfBoundsException {
        if (!shown.has(i)) {
            throw new IndexOutOfBoundsException("no such symbol");
        }
        return shown.symbols[i];
    }

    public int typeSymbol(int i, int k) throws IndexOutOfBoundsException {
        if (!shown.has(i) || !shown.hasInType(i, k)) {
            throw new IndexOutOfBoundsException("no such symbol of a type");
        }
        return shown.typeRows[shown.typeStarts[i] + k];
    }

    private int declareConstant() {
        int from = text.start;
        int to = text.end;
        if (canBeDeclared(text.kind)) {
            text.advance();
        } else {
            text.failHere(SYNTAX_FAULT);
        }
        text.expect(COLON);
        int node = typeReader.read(0);
        text.expectEnd();
        if (text.isRight()) {
            text.failAsWhole(faultOfConstant(from, to));
        }
        if (!text.isRight()) {
            return -1;
        }
        return constants.add(text.bytes, from, to, node);
    }

    private int faultOfConstant(int from, int to) {
        if (constants.names.find(text.bytes, from, to) >= 0) {
            return NAME_FAULT;
        }
        if (constants.names.count >= MAX_CONSTANTS || typeReader.large) {
            return LARGE_FAULT;
        }
        return typeReader.wrong ? TYPE_FAULT : NO_FAULT;
    }

    private int declareType() {
        int from = text.start;
        int to = text.end;
        text.expect(NAME);
        int taken = 0;
        while (taken < MAX_TAKEN && text.kind == TYPE_NAME) {
            taken++;
            text.advance();
        }
        text.expectEnd();
        if (text.isRight()) {
            text.failAsWhole(faultOfType(from, to));
        }
        if (!text.isRight()) {
            return -1;
        }
        types.add(text.bytes, from, to, taken);
        return types.names.count - 1;
    }

    private int faultOfType(int from, int to) {
        if (types.names.find(text.bytes, from, to) >= 0) {
            return NAME_FAULT;
        }
        return types.names.count >= MAX_TYPES ? LARGE_FAULT : NO_FAULT;
    }

    private static boolean canBeDeclared(int kind) {
        return kind == NAME || kind == PLUS || kind == TIMES || kind == LESS || kind == AT_MOST;
    }

    private static boolean isBinder(int kind) {
        return kind == LAMBDA || kind == FORALL || kind == EXISTS || kind == CHOICE;
    }

    private static boolean startsAtom(int kind) {
        return kind == NAME || kind == NUMERAL || kind == LEFT;
    }

    /** How strongly an operator holds, 1 to 7 from the weakest; 0 if the token is none. */
    private static int strengthOf(int kind) {
        switch (kind) {
            case IFF:
                return 1;
            case IMPLIES:
                return 2;
            case OR:
                return 3;
            case AND:
                return 4;
            case EQUALS:
            case LESS:
            case AT_MOST:
                return COMPARING;
            case PLUS:
                return 6;
            case TIMES:
                return 7;
            default:
                return 0;
        }
    }

    private static boolean sameBytes(byte[] one, int from, int to, byte[] other, int otherFrom) {
        for (int i = 0; i < to - from; i++) {
            if (one[from + i] != other[otherFrom + i]) {
                return false;
            }
        }
        return true;
    }

    /** Different names with numbers from 0, as they came. */
    private static final class NameTable {
        private static final int BUCKETS = 256;

        private final byte[] letters;
        private final int[] starts;
        private final int[] nextInBucket;
        private final int[] firstInBucket = new int[BUCKETS];
        int count;

        NameTable(int names, int size, String firstOnes) {
            letters = new byte[size];
            starts = new int[names + 1];
            nextInBucket = new int[names];
            for (int i = 0; i < BUCKETS; i++) {
                firstInBucket[i] = -1;
            }
            addWords(firstOnes);
        }

        private void addWords(String words) {
            byte[] row = new byte[words.length()];
            int from = 0;
            for (int i = 0; i < row.length; i++) {
                row[i] = (byte) words.charAt(i);
                if (row[i] == ' ') {
                    add(row, from, i);
                    from = i + 1;
                }
            }
            if (from < row.length) {
                add(row, from, row.length);
            }
        }

        /** The name's number; -1 if it is not here. */
        int find(byte[] source, int from, int to) {
            int at = firstInBucket[bucketOf(source, from, to)];
            for (int i = 0; i < count && at >= 0; i++) {
                if (starts[at + 1] - starts[at] == to - from
                        && sameBytes(source, from, to, letters, starts[at])) {
                    return at;
                }
                at = nextInBucket[at];
            }
            return -1;
        }

        /** The number of a name that is not here yet; -1 if there is no room. */
        int add(byte[] source, int from, int to) {
            int start = starts[count];
            if (count >= nextInBucket.length || to - from > letters.length - start) {
                return -1;
            }
            for (int i = from; i < to; i++) {
                letters[start + i - from] = source[i];
            }
            int bucket = bucketOf(source, from, to);
            nextInBucket[count] = firstInBucket[bucket];
            firstInBucket[bucket] = count;
            count++;
            starts[count] = start + to - from;
            return count - 1;
        }

        private static int bucketOf(byte[] source, int from, int to) {
            int sum = 0;
            for (int i = from; i < to; i++) {
                sum = sum * 31 + source[i];
            }
            return sum & (BUCKETS - 1);
        }
    }

    /**
     * The bytes, the token that is being looked at, and the first fault. Behind a fault every token
     * is the end, so that what reads comes to its own end and reads no token more.
     */
    private static final class Text {
        final byte[] bytes = new byte[MAX_BYTES];
        private final NameTable typeNames = new NameTable(MAX_TYPE_NAMES, TYPE_NAME_LETTERS, "");
        private int fed;
        private int length;
        private int tokens;
        private int firstStart;
        int kind;
        int start;
        int end;
        /** A numeral's number, or a type name's. */
        int value;
        int fault = NO_FAULT;
        int place = -1;

        boolean isFull() {
            return fed > MAX_BYTES - 20;
        }

        boolean has(int n) {
            return n >= 0 && n <= fed;
        }

        boolean isRight() {
            return fault == NO_FAULT;
        }

        void append(int four) {
            for (int shift = 24; shift >= 0 && fed < MAX_BYTES; shift -= 8) {
                bytes[fed] = (byte) (four >>> shift);
                fed++;
            }
        }

        /** Takes the first n bytes as the text and reads its first token. */
        void open(int n) {
            length = n;
            fed = 0;
            tokens = 0;
            end = 0;
            fault = NO_FAULT;
            place = -1;
            advance();
            firstStart = start;
        }

        void advance() {
            if (!isRight()) {
                return;
            }
            start = behindBlanks(end);
            end = start;
            if (start >= length) {
                kind = END;
            } else if (tokens >= MAX_TOKENS) {
                failHere(LARGE_FAULT);
            } else {
                tokens++;
                int c = bytes[start];
                if (isLetter(c)) {
                    scanName();
                } else if (c == '\'') {
                    scanTypeName();
                } else if (isDigit(c)) {
                    scanNumeral();
                } else {
                    scanSign(c);
                }
            }
        }

        /** Whether a ) stands behind the token; reads none. */
        boolean isRightNext() {
            int at = behindBlanks(end);
            return at < length && bytes[at] == ')';
        }

        void expect(int wanted) {
            if (kind == wanted) {
                advance();
            } else {
                failHere(SYNTAX_FAULT);
            }
        }

        void expectEnd() {
            if (kind != END) {
                failHere(SYNTAX_FAULT);
            }
        }

        /** Whether what the token before opened lies too deep in what is open. */
        boolean failIfTooDeep(int depth) {
            if (depth >= MAX_DEPTH) {
                failHere(LARGE_FAULT);
                return true;
            }
            return false;
        }

        void failHere(int newFault) {
            fail(newFault, start);
        }

        /** Takes a fault that no token has, or none. */
        void failAsWhole(int newFault) {
            if (newFault != NO_FAULT) {
                fail(newFault, firstStart);
            }
        }

        private void fail(int newFault, int newPlace) {
            if (fault == NO_FAULT) {
                fault = newFault;
                place = newPlace;
                kind = END;
            }
        }

        private int behindBlanks(int from) {
            int at = from;
            boolean remark = false;
            while (at < length && (remark || isBlank(bytes[at]) || bytes[at] == '#')) {
                remark = (remark || bytes[at] == '#') && bytes[at] != 10;
                at++;
            }
            return at;
        }

        private void scanName() {
            end = behindWord(start);
            kind = isKeyword() ? USELESS : NAME;
            if (end - start > MAX_NAME) {
                failHere(LARGE_FAULT);
            }
        }

        private boolean isKeyword() {
            if (end - start != 2) {
                return false;
            }
            int c = bytes[start];
            int d = bytes[start + 1];
            return c == 'b' && d == 'y' || c == 'i' && d == 'n';
        }

        private void scanTypeName() {
            int word = start + 1;
            if (!isLetter(byteAt(word))) {
                failHere(SCAN_FAULT);
                return;
            }
            end = behindWord(word);
            kind = TYPE_NAME;
            if (end - word > MAX_NAME) {
                failHere(LARGE_FAULT);
                return;
            }
            value = typeNames.find(bytes, word, end);
            if (value < 0) {
                value = typeNames.add(bytes, word, end);
            }
        }

        private void scanNumeral() {
            value = 0;
            while (end < length && isDigit(bytes[end])) {
                value = Math.min(value * 10 + bytes[end] - '0', MAX_NUMERAL + 1);
                end++;
            }
            kind = NUMERAL;
            if (value > MAX_NUMERAL) {
                failHere(LARGE_FAULT);
            }
        }

        private void scanSign(int c) {
            int d = byteAt(start + 1);
            kind = kindOfThree(c, d, byteAt(start + 2));
            end = start + 3;
            if (kind == NO_TOKEN) {
                kind = kindOfTwo(c, d);
                end = start + 2;
            }
            if (kind == NO_TOKEN) {
                kind = kindOfOne(c);
                end = start + 1;
            }
            if (kind == NO_TOKEN) {
                failHere(SCAN_FAULT);
            }
        }

        /** The byte there; behind the text one that no token has. */
        private int byteAt(int at) {
            return at < length ? bytes[at] : 0;
        }

        private int behindWord(int from) {
            int at = from;
            while (at < length && (isLetter(bytes[at]) || isDigit(bytes[at]) || bytes[at] == '\'')) {
                at++;
            }
            return at;
        }

        private static boolean isBlank(int c) {
            return c == 32 || c == 9 || c == 10 || c == 13;
        }

        private static boolean isLetter(int c) {
            return c >= 'a' && c <= 'z' || c >= 'A' && c <= 'Z' || c == '_';
        }

        private static boolean isDigit(int c) {
            return c >= '0' && c <= '9';
        }

        private static int kindOfThree(int c, int d, int e) {
            if (d != '=' || e != '>') {
                return NO_TOKEN;
            }
            return c == '=' ? IMPLIES : c == '<' ? IFF : NO_TOKEN;
        }

        private static int kindOfTwo(int c, int d) {
            switch (c) {
                case '<':
                    return d == '=' ? AT_MOST : d == '-' ? USELESS : NO_TOKEN;
                case '-':
                    return d == '>' ? ARROW : NO_TOKEN;
                case '/':
                    return d == '\\' ? AND : NO_TOKEN;
                case '\\':
                    return d == '/' ? OR : NO_TOKEN;
                case ':':
                    return d == '=' ? USELESS : NO_TOKEN;
                default:
                    return NO_TOKEN;
            }
        }

        private static int kindOfOne(int c) {
            switch (c) {
                case '(':
                    return LEFT;
                case ')':
                    return RIGHT;
                case ':':
                    return COLON;
                case '.':
                    return DOT;
                case '\\':
                    return LAMBDA;
                case '!':
                    return FORALL;
                case '?':
                    return EXISTS;
                case '@':
                    return CHOICE;
                case '~':
                    return NOT;
                case '=':
                    return EQUALS;
                case '<':
                    return LESS;
                case '+':
                    return PLUS;
                case '*':
                    return TIMES;
                case '[':
                case ']':
                case ',':
                case ';':
                case '|':
                    return USELESS;
                default:
                    return NO_TOKEN;
            }
        }
    }

    /** The types that there are, functions among them, and how many types each takes. */
    private static final class TypeTable {
        final NameTable names = new NameTable(MAX_TYPES, MAX_TYPES * MAX_NAME, TYPE_NAMES);
        private final int[] taken = new int[MAX_TYPES];

        TypeTable() {
            taken[FUNCTIONS] = 2;
        }

        void add(byte[] source, int from, int to, int takes) {
            int number = names.add(source, from, to);
            if (number >= 0) {
                taken[number] = takes;
            }
        }

        /** How many types come behind a type's symbol in prefix order; none behind a variable. */
        int takenBy(int code) {
            return code >= 0 && code < taken.length ? taken[code] : 0;
        }
    }

    /**
     * The types of one text as nodes that share their parts. Nodes that have been made equal form
     * a chain of parents up to one that speaks for all of them; so making two types equal never
     * copies one, however large they are when written out.
     */
    private static final class TypePool {
        private static final int FAR_TOO_LARGE = 1000000;
        private static final int BEING_MEASURED = -1;

        private final int[] codes = new int[MAX_TYPE_NODES];
        private final int[] first = new int[MAX_TYPE_NODES];
        private final int[] second = new int[MAX_TYPE_NODES];
        private final int[] parents = new int[MAX_TYPE_NODES];
        private final int[] sizes = new int[MAX_TYPE_NODES];
        private final int[] heights = new int[MAX_TYPE_NODES];
        private final int[] waiting = new int[MAX_TYPE_NODES];
        private int waitingCount;
        private int count;
        private int leftOver;
        /** Whether two types that have to be equal cannot be. */
        boolean clash;
        boolean overfull;

        /** Node 0 stands where a text with a fault has no type. */
        void clear() {
            count = 0;
            leftOver = 0;
            clash = false;
            overfull = false;
            unknown();
        }

        int unknown() {
            return add(UNKNOWN, -1, -1);
        }

        int function(int from, int to) {
            return add(FUNCTIONS, from, to);
        }

        /** A new node; a part that it has not is -1. */
        int add(int code, int one, int other) {
            if (count >= MAX_TYPE_NODES) {
                overfull = true;
                return 0;
            }
            codes[count] = code;
            first[count] = one;
            second[count] = other;
            parents[count] = count;
            count++;
            return count - 1;
        }

        /** A node of a type as it is written, whose size and height can be asked for at once. */
        int written(int code, int one, int other) {
            int node = add(code, one, other);
            measure(node);
            return node;
        }

        /** A node for what is written but is no type; of it only the size and the height are known. */
        int writtenWrong(int size, int height) {
            int node = unknown();
            setMeasures(node, size, height);
            return node;
        }

        int sizeOf(int node) {
            return sizes[find(node)];
        }

        int heightOf(int node) {
            return heights[find(node)];
        }

        boolean isLarge(int node) {
            return sizeOf(node) > MAX_TYPE_SYMBOLS || heightOf(node) > MAX_TYPE_HEIGHT;
        }

        private void setMeasures(int node, int size, int height) {
            sizes[node] = size;
            heights[node] = height;
        }

        /** The type of a function's application to an argument. */
        int applied(int function, int argument) {
            int root = find(function);
            if (codes[root] == FUNCTIONS) {
                equate(first[root], argument);
                return second[root];
            }
            int result = unknown();
            equate(root, function(argument, result));
            return result;
        }

        void equate(int one, int other) {
            waitingCount = 0;
            join(one, other);
            for (int i = 0; i < MAX_TYPE_NODES && waitingCount > 0 && !clash; i++) {
                waitingCount--;
                int joined = waiting[waitingCount];
                int root = find(joined);
                join(first[joined], first[root]);
                join(second[joined], second[root]);
            }
        }

        /** Each node is joined to another at most once, so those that wait have room. */
        private void join(int one, int other) {
            if (one < 0 || other < 0) {
                return;
            }
            int a = find(one);
            int b = find(other);
            if (a == b) {
                return;
            }
            if (codes[a] == UNKNOWN) {
                parents[a] = b;
            } else if (codes[b] == UNKNOWN) {
                parents[b] = a;
            } else if (codes[a] != codes[b]) {
                clash = true;
            } else {
                parents[a] = b;
                if (first[a] >= 0 && waitingCount < MAX_TYPE_NODES) {
                    waiting[waitingCount] = a;
                    waitingCount++;
                }
            }
        }

        private int find(int node) {
            int at = node;
            for (int i = 0; i < MAX_TYPE_NODES && parents[at] != at; i++) {
                parents[at] = parents[parents[at]];
                at = parents[at];
            }
            return at;
        }

        /** Measures all types as they are now; false if one of them would lie within itself. */
        boolean measureAll() {
            for (int i = 0; i < count; i++) {
                heights[i] = 0;
            }
            for (int i = 0; i < count; i++) {
                int root = find(i);
                if (heights[root] == 0 && !measureWithParts(root)) {
                    return false;
                }
            }
            return true;
        }

        private boolean measureWithParts(int root) {
            waiting[0] = root;
            int depth = 1;
            for (int i = 0; i < 2 * MAX_TYPE_NODES && depth > 0; i++) {
                int node = waiting[depth - 1];
                heights[node] = BEING_MEASURED;
                int part = unmeasuredPart(node);
                if (part < 0) {
                    measure(node);
                    depth--;
                } else if (heights[part] == BEING_MEASURED || depth >= MAX_TYPE_NODES) {
                    return false;
                } else {
                    waiting[depth] = part;
                    depth++;
                }
            }
            return true;
        }

        private int unmeasuredPart(int node) {
            if (first[node] >= 0 && heightOf(first[node]) <= 0) {
                return find(first[node]);
            }
            if (second[node] >= 0 && heightOf(second[node]) <= 0) {
                return find(second[node]);
            }
            return -1;
        }

        private void measure(int node) {
            int size = 1;
            int height = 0;
            if (first[node] >= 0) {
                size += sizeOf(first[node]);
                height = heightOf(first[node]);
            }
            if (second[node] >= 0) {
                size += sizeOf(second[node]);
                height = Math.max(height, heightOf(second[node]));
            }
            setMeasures(node, Math.min(size, FAR_TOO_LARGE), height + 1);
        }

        /** Writes a type into a row in prefix order; answers where the row goes on. */
        int write(int node, int[] row, int from) {
            waiting[0] = node;
            int depth = 1;
            int at = from;
            while (at < row.length && depth > 0 && depth < MAX_TYPE_NODES - 1) {
                depth--;
                int root = find(waiting[depth]);
                row[at] = codeOf(root);
                at++;
                depth = putAside(second[root], depth);
                depth = putAside(first[root], depth);
            }
            return at;
        }

        private int putAside(int part, int depth) {
            if (part < 0) {
                return depth;
            }
            waiting[depth] = part;
            return depth + 1;
        }

        /** An unknown type that is left becomes a type variable when it is first written. */
        private int codeOf(int root) {
            if (codes[root] == UNKNOWN) {
                codes[root] = FIRST_LEFT_OVER - leftOver;
                leftOver++;
            }
            return codes[root];
        }
    }

    /** The constants that there are, and their types in prefix order. */
    private static final class ConstantTable {
        final NameTable names = new NameTable(MAX_CONSTANTS, MAX_CONSTANTS * MAX_NAME, CONSTANT_NAMES);
        private final int[] rows = new int[MAX_CONSTANTS * MAX_TYPE_SYMBOLS];
        private final int[] ends = new int[MAX_CONSTANTS];
        private final int[] nodes = new int[MAX_TYPE_SYMBOLS];
        private final int[] parts = new int[MAX_TYPE_SYMBOLS];
        private final TypeTable types;
        private final TypePool pool;

        ConstantTable(TypeTable types, TypePool pool) {
            this.types = types;
            this.pool = pool;
            int at = 0;
            for (int c = 0; c < names.count; c++) {
                int length = CONSTANT_TYPES[at];
                int start = c * MAX_TYPE_SYMBOLS;
                System.arraycopy(CONSTANT_TYPES, at + 1, rows, start, length);
                ends[c] = start + length;
                at += 1 + length;
            }
        }

        int add(byte[] source, int from, int to, int node) {
            int number = names.add(source, from, to);
            if (number >= 0) {
                ends[number] = pool.write(node, rows, number * MAX_TYPE_SYMBOLS);
            }
            return number;
        }

        /**
         * A constant's type with new unknown types for its type variables. The row is gone through
         * from its end, where the parts of a type come before the whole.
         */
        int newType(int constant) {
            int start = constant * MAX_TYPE_SYMBOLS;
            int count = 0;
            for (int i = ends[constant] - 1; i >= start; i--) {
                int code = rows[i];
                int taken = types.takenBy(code);
                int one = taken > 0 && count > 0 ? parts[count - 1] : -1;
                int other = taken > 1 && count > 1 ? parts[count - 2] : -1;
                int node = code < 0 ? nodeOfVariable(start, i, ends[constant]) : -1;
                if (node < 0) {
                    node = pool.add(code < 0 ? UNKNOWN : code, one, other);
                }
                nodes[i - start] = node;
                count = Math.max(count - taken, 0);
                parts[count] = node;
                count++;
            }
            return parts[0];
        }

        /** The node of a type variable that stands again behind this place; -1 if it does not. */
        private int nodeOfVariable(int start, int at, int end) {
            for (int i = at + 1; i < end; i++) {
                if (rows[i] == rows[at]) {
                    return nodes[i - start];
                }
            }
            return -1;
        }
    }

    /** Reads types that are written. */
    private static final class TypeReader {
        private final Text text;
        private final TypeTable types;
        private final TypePool pool;
        private final int[] waiting = new int[MAX_WAITING];
        private int waitingCount;
        /** Whether a written type is too large. */
        boolean large;
        /** Whether a written type has an unknown name, or one that takes another number. */
        boolean wrong;

        TypeReader(Text text, TypeTable types, TypePool pool) {
            this.text = text;
            this.types = types;
            this.pool = pool;
        }

        void clear() {
            waitingCount = 0;
            large = false;
            wrong = false;
        }

        /** Reads a type that lies so deep in others. If a part is too large, so is the whole. */
        int read(int depth) {
            int base = waitingCount;
            int last = readAtom(depth);
            for (int i = 0; i < MAX_WAITING && text.kind == ARROW; i++) {
                putAside(last);
                text.advance();
                last = readAtom(depth);
            }
            while (waitingCount > base) {
                waitingCount--;
                last = pool.written(FUNCTIONS, waiting[waitingCount], last);
            }
            large = large || pool.overfull || pool.isLarge(last);
            return last;
        }

        private void putAside(int node) {
            if (waitingCount < MAX_WAITING) {
                waiting[waitingCount] = node;
                waitingCount++;
            }
        }

        private int readAtom(int depth) {
            return text.kind == NAME ? readNamed(depth) : readPart(depth);
        }

        /** Reads a name and what it takes; a type with a wrong name or number is kept by size alone. */
        private int readNamed(int depth) {
            int number = types.names.find(text.bytes, text.start, text.end);
            text.advance();
            int first = -1;
            int second = -1;
            int size = 1;
            int height = 0;
            int taken = 0;
            for (; taken < MAX_TOKENS && startsPart(text.kind); taken++) {
                int part = text.kind == NAME ? readLoneName() : readPart(depth);
                size += pool.sizeOf(part);
                height = Math.max(height, pool.heightOf(part));
                first = taken == 0 ? part : first;
                second = taken == 1 ? part : second;
            }
            if (number >= 0 && types.takenBy(number) == taken) {
                return pool.written(number, first, second);
            }
            wrong = true;
            return pool.writtenWrong(size, height + 1);
        }

        private int readLoneName() {
            int number = types.names.find(text.bytes, text.start, text.end);
            text.advance();
            if (number >= 0 && types.takenBy(number) == 0) {
                return pool.written(number, -1, -1);
            }
            wrong = true;
            return pool.writtenWrong(1, 1);
        }

        private int readPart(int depth) {
            if (text.kind == LEFT) {
                return readInside(depth);
            }
            int node = text.kind == TYPE_NAME ? pool.written(FIRST_TYPE_NAME - text.value, -1, -1) : 0;
            text.expect(TYPE_NAME);
            return node;
        }

        private int readInside(int depth) {
            text.advance();
            if (text.failIfTooDeep(depth)) {
                return 0;
            }
            int node = read(depth + 1);
            text.expect(RIGHT);
            return node;
        }

        private static boolean startsPart(int kind) {
            return kind == NAME || kind == TYPE_NAME || kind == LEFT;
        }
    }

    /** The variables of the binders that are open, the outermost first. */
    private static final class Scope {
        private final int[] starts = new int[MAX_SYMBOLS];
        private final int[] ends = new int[MAX_SYMBOLS];
        private final int[] types = new int[MAX_SYMBOLS];
        int count;

        boolean isFull() {
            return count >= MAX_SYMBOLS;
        }

        void add(int start, int end, int type) {
            starts[count] = start;
            ends[count] = end;
            types[count] = type;
            count++;
        }

        int typeOf(int variable) {
            return types[variable];
        }

        /** The innermost variable of the token's name; -1 if there is none. */
        int find(Text text) {
            int length = text.end - text.start;
            for (int i = count - 1; i >= 0; i--) {
                if (ends[i] - starts[i] == length
                        && sameBytes(text.bytes, starts[i], ends[i], text.bytes, text.start)) {
                    return i;
                }
            }
            return -1;
        }
    }

    /**
     * A term's symbols as nodes, from 1 on; node 0 stands where a text has no term. Each node that
     * is made is a part of the whole term: when one finds no room, the term has too many symbols.
     */
    private static final class TermTree {
        private static final int ROOM = MAX_SYMBOLS + 1;

        final int[] symbols = new int[ROOM];
        final int[] first = new int[ROOM];
        final int[] second = new int[ROOM];
        final int[] types = new int[ROOM];
        private final int[] heights = new int[ROOM];
        private final TypePool pool;
        int count;
        boolean overfull;

        TermTree(TypePool pool) {
            this.pool = pool;
        }

        void clear() {
            count = 1;
            overfull = false;
        }

        int leaf(int symbol, int type) {
            return add(symbol, 0, 0, type);
        }

        int application(int function, int argument) {
            if (overfull) {
                return 0;
            }
            int type = pool.applied(types[function], types[argument]);
            return add(APPLICATION, function, argument, type);
        }

        int abstraction(int variableType, int body) {
            if (overfull) {
                return 0;
            }
            return add(ABSTRACTION, body, 0, pool.function(variableType, types[body]));
        }

        private int add(int symbol, int one, int other, int type) {
            if (overfull || count >= ROOM) {
                overfull = true;
                return 0;
            }
            symbols[count] = symbol;
            first[count] = one;
            second[count] = other;
            types[count] = type;
            heights[count] = 1 + Math.max(heights[one], heights[other]);
            count++;
            return count - 1;
        }

        boolean isLarge(int root) {
            return overfull || heights[root] > MAX_HEIGHT;
        }

        boolean hasLargeType() {
            for (int i = 1; i < count; i++) {
                if (pool.isLarge(types[i])) {
                    return true;
                }
            }
            return false;
        }
    }

    /** Reads terms, and finds out what their names are and their types on the way. */
    private static final class TermReader {
        private final Text text;
        private final ConstantTable constants;
        private final TypePool pool;
        private final TypeReader typeReader;
        private final Scope scope = new Scope();
        final TermTree tree;
        /** Operators that are applied to their left operand and wait for the right one. */
        private final int[] waiting = new int[MAX_WAITING];
        private final int[] strengths = new int[MAX_WAITING];
        private int waitingCount;
        private boolean unknownName;

        TermReader(Text text, ConstantTable constants, TypePool pool, TypeReader typeReader) {
            this.text = text;
            this.constants = constants;
            this.pool = pool;
            this.typeReader = typeReader;
            tree = new TermTree(pool);
        }

        void clear() {
            tree.clear();
            scope.count = 0;
            waitingCount = 0;
            unknownName = false;
        }

        /** The first fault of a term whose syntax is right. */
        int faultOf(int root) {
            if (tree.isLarge(root) || typeReader.large || pool.overfull) {
                return LARGE_FAULT;
            }
            if (unknownName) {
                return NAME_FAULT;
            }
            if (typeReader.wrong || pool.clash || !pool.measureAll()) {
                return TYPE_FAULT;
            }
            return tree.hasLargeType() ? LARGE_FAULT : NO_FAULT;
        }

        /** Reads a term that lies so deep in others. */
        int read(int depth) {
            int base = waitingCount;
            int last = readOperand(depth);
            for (int i = 0; i < MAX_TOKENS && strengthOf(text.kind) > 0; i++) {
                int strength = strengthOf(text.kind);
                last = applyStronger(base, strength, last);
                if (strength == COMPARING && waitingCount > base
                        && strengths[waitingCount - 1] == COMPARING) {
                    text.failHere(SYNTAX_FAULT);
                    return last;
                }
                putAside(tree.application(constantOfToken(), last), strength);
                text.advance();
                last = readOperand(depth);
            }
            return applyStronger(base, 0, last);
        }

        private void putAside(int node, int strength) {
            if (waitingCount < MAX_WAITING) {
                waiting[waitingCount] = node;
                strengths[waitingCount] = strength;
                waitingCount++;
            }
        }

        /** Applies what waits and holds the operand more strongly than an operator behind it. */
        private int applyStronger(int base, int strength, int operand) {
            int last = operand;
            while (waitingCount > base && holdsBefore(strengths[waitingCount - 1], strength)) {
                waitingCount--;
                last = tree.application(waiting[waitingCount], last);
            }
            return last;
        }

        private static boolean holdsBefore(int left, int right) {
            return left > right || left == right && left > COMPARING;
        }

        private int readOperand(int depth) {
            int nots = 0;
            while (nots < MAX_TOKENS && text.kind == NOT) {
                nots++;
                text.advance();
            }
            int node = isBinder(text.kind) ? readBinder(depth) : readApplications(depth);
            for (int i = 0; i < nots; i++) {
                node = tree.application(constantLeaf(NOT_CONSTANT), node);
            }
            return node;
        }

        private int readApplications(int depth) {
            int node = readAtom(depth);
            for (int i = 0; i < MAX_TOKENS && startsAtom(text.kind); i++) {
                node = tree.application(node, readAtom(depth));
            }
            return node;
        }

        private int readAtom(int depth) {
            if (text.kind == LEFT) {
                return readInside(depth);
            }
            if (text.kind == NUMERAL) {
                int number = numeral(text.value);
                text.advance();
                return number;
            }
            int node = text.kind == NAME ? nameOfToken() : 0;
            text.expect(NAME);
            return node;
        }

        private int readInside(int depth) {
            text.advance();
            if (isLoneSign()) {
                int node = constantOfToken();
                text.advance();
                text.expect(RIGHT);
                return node;
            }
            if (text.failIfTooDeep(depth)) {
                return 0;
            }
            int node = read(depth + 1);
            if (text.kind == COLON) {
                text.advance();
                int type = typeReader.read(depth + 1);
                pool.equate(tree.types[node], type);
            }
            text.expect(RIGHT);
            return node;
        }

        /** An operator cannot begin a term; ~ ! ? @ can, so there what comes next decides. */
        private boolean isLoneSign() {
            if (strengthOf(text.kind) > 0) {
                return true;
            }
            boolean mayBegin = text.kind == NOT || isBinder(text.kind) && text.kind != LAMBDA;
            return mayBegin && text.isRightNext();
        }

        private int readBinder(int depth) {
            int constant = constants.names.find(text.bytes, text.start, text.end);
            text.advance();
            if (text.failIfTooDeep(depth)) {
                return 0;
            }
            int base = scope.count;
            int body = readBody(depth + 1);
            return bind(base, constant, body);
        }

        /** Reads what stands behind a binder: at least one variable, the dot and the term. */
        private int readBody(int depth) {
            for (int i = 0; i < MAX_TOKENS && (i == 0 || text.kind == NAME || text.kind == LEFT); i++) {
                boolean typed = text.kind == LEFT;
                if (typed) {
                    text.advance();
                }
                int start = text.start;
                int end = text.end;
                text.expect(NAME);
                if (typed) {
                    text.expect(COLON);
                    addVariable(start, end, typeReader.read(depth));
                    text.expect(RIGHT);
                } else {
                    addVariable(start, end, tree.overfull ? 0 : pool.unknown());
                }
            }
            text.expect(DOT);
            return read(depth);
        }

        private void addVariable(int start, int end, int type) {
            if (scope.isFull()) {
                // Each of the variables will be an abstraction, and that is one too many.
                tree.overfull = true;
            } else {
                scope.add(start, end, type);
            }
        }

        /** Binds the variables from the innermost on; \ is no constant and is applied to nothing. */
        private int bind(int base, int constant, int body) {
            int node = body;
            while (scope.count > base) {
                scope.count--;
                node = tree.abstraction(scope.typeOf(scope.count), node);
                if (constant >= 0) {
                    node = tree.application(constantLeaf(constant), node);
                }
            }
            return node;
        }

        private int numeral(int n) {
            int node = constantLeaf(ZERO_CONSTANT);
            for (int i = 0; i < n; i++) {
                node = tree.application(constantLeaf(SUC_CONSTANT), node);
            }
            return node;
        }

        private int nameOfToken() {
            int variable = scope.find(text);
            if (variable < 0) {
                return constantOfToken();
            }
            return tree.leaf(2 * (scope.count - 1 - variable), scope.typeOf(variable));
        }

        private int constantOfToken() {
            if (text.kind == IFF) {
                // = on bool is of the type that ==> has.
                return constantLeaf(EQUALS_CONSTANT, IMPLIES_CONSTANT);
            }
            int constant = constants.names.find(text.bytes, text.start, text.end);
            if (constant >= 0) {
                return constantLeaf(constant);
            }
            unknownName = true;
            return tree.leaf(0, 0);
        }

        private int constantLeaf(int constant) {
            return constantLeaf(constant, constant);
        }

        private int constantLeaf(int constant, int typed) {
            return tree.overfull ? 0 : tree.leaf(2 * constant + 1, constants.newType(typed));
        }
    }

    /** The latest term as a row of symbols, with a row of symbols for each one's type. */
    private static final class ShownTerm {
        final int[] symbols = new int[MAX_SYMBOLS];
        final int[] typeStarts = new int[MAX_SYMBOLS + 1];
        final int[] typeRows = new int[MAX_SYMBOLS * MAX_TYPE_SYMBOLS];
        private final int[] waiting = new int[MAX_SYMBOLS + 1];
        int count;

        boolean has(int i) {
            return i >= 0 && i < count;
        }

        boolean hasInType(int i, int k) {
            return k >= 0 && k < typeStarts[i + 1] - typeStarts[i];
        }

        void fill(TermTree tree, int root, TypePool pool) {
            count = 0;
            waiting[0] = root;
            int depth = 1;
            while (count < MAX_SYMBOLS && depth > 0 && depth < MAX_SYMBOLS) {
                depth--;
                int node = waiting[depth];
                symbols[count] = tree.symbols[node];
                typeStarts[count + 1] = pool.write(tree.types[node], typeRows, typeStarts[count]);
                count++;
                depth = putAside(tree.second[node], depth);
                depth = putAside(tree.first[node], depth);
            }
        }

        private int putAside(int part, int depth) {
            if (part <= 0) {
                return depth;
            }
            waiting[depth] = part;
            return depth + 1;
        }
    }
}
