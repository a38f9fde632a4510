import java.util.Arrays;

/** A compiler for a language of blocks within blocks, and the machine on which its code runs. */
public final class TaggedPascal {
    public static final int NONE = -1;

    private static final int TAPE_ROOM = 1500;
    private static final int MOST_STEPS = 20000;
    private static final int BYTES_OF_LONG = 8;

    private static final int INTEGER = 0;
    private static final int CHAR = 1;
    private static final int BOOLEAN = 2;
    private static final int SET = 3;

    private static final int CANNOT_COME = 1;
    private static final int NOT_KNOWN = 2;
    private static final int DECLARED_TWICE = 3;
    private static final int DOES_NOT_FIT = 4;
    private static final int TOO_MUCH = 5;

    private static final int GREATEST_NUMBER = 2147483647;
    private static final int GREATEST_CHAR = 255;
    private static final int GREATEST_ELEMENT = 63;
    private static final int DEEPEST = 20;
    private static final int MOST_PARAMETERS = 8;
    private static final int MOST_LEVELS = 6;
    private static final int LONGEST_ARRAY = 500;

    /** The cells of a block before its parameters: two links, where it goes on, a function's value. */
    private static final int HEADER = 4;
    private static final int LINK_OUTWARD = 0;
    private static final int LINK_BACK = 1;
    private static final int GOES_ON = 2;
    private static final int RESULT = 3;

    private final Tape tape = new Tape();
    private final Tape entered = new Tape();
    private final Words words = new Words(tape);
    private final Code draft = new Code();
    private final Code program = new Code();
    private final Blocks blocks = new Blocks(words, draft);
    private final Machine machine = new Machine(program, entered);

    public TaggedPascal() {
        program.frame = HEADER;
        program.emit(Code.HALT);
    }

    public int feed(int n, long bytes) throws IllegalArgumentException {
        if (n < 1 || n > BYTES_OF_LONG) {
            throw new IllegalArgumentException("n is not 1 to 8");
        }
        if (tape.length() + n > TAPE_ROOM) {
            return NONE;
        }
        for (int i = 0; i < n; i++) {
            tape.append((int) (bytes >>> (8 * i)));
        }
        return tape.length();
    }

    public int wipe() {
        int had = tape.length();
        tape.clear();
        return had;
    }

    public int compile() {
        try {
            words.scan();
            Routine whole = blocks.begin();
            blocks.block(whole);
            blocks.end(whole);
        } catch (IllegalStateException atFirstFault) {
            return NONE;
        }
        program.become(draft);
        return program.routines;
    }

    public int fault() {
        return words.failure();
    }

    public int place() {
        return words.failedAt();
    }

    public int input() {
        entered.become(tape);
        tape.clear();
        return entered.length();
    }

    public int run(int steps) throws IllegalArgumentException {
        if (steps < 0 || steps > MOST_STEPS) {
            throw new IllegalArgumentException("steps is not 0 to 20000");
        }
        return machine.execute(steps);
    }

    public int where() {
        return machine.errorPlace();
    }

    public int written() {
        return machine.output().length();
    }

    public long text(int i) {
        long eight = 0;
        for (int k = 0; k < BYTES_OF_LONG; k++) {
            long b = machine.output().at((long) i + k);
            if (b != NONE) {
                eight |= b << (8 * k);
            }
        }
        return eight;
    }

    public int told(int what) throws IllegalArgumentException {
        switch (what) {
            case 0:
                return machine.steps();
            case 1:
                return machine.mostBlocks();
            case 2:
                return machine.mostCells();
            case 3:
                return machine.bytesRead();
            default:
                throw new IllegalArgumentException("what is not 0 to 3");
        }
    }

    /** Up to 1500 bytes in a row: the tape, the input, or what is written. */
    private static final class Tape {
        private final byte[] bytes = new byte[TAPE_ROOM];
        private int length;

        int length() {
            return length;
        }

        int at(long i) {
            return i < 0 || i >= length ? NONE : bytes[(int) i] & 255;
        }

        boolean append(int b) {
            if (length >= bytes.length) {
                return false;
            }
            bytes[length] = (byte) b;
            length++;
            return true;
        }

        void clear() {
            length = 0;
        }

        void become(Tape other) {
            System.arraycopy(other.bytes, 0, bytes, 0, other.length);
            length = other.length;
        }
    }

    /** The words of a tape, up to the first that is none, the one that is looked at, and the first fault. */
    private static final class Words {
        static final int END_OF_TAPE = 0;
        static final int BAD = 1;
        static final int NAME = 2;
        static final int NUMBER = 3;
        static final int STRING = 4;
        static final int PLUS = 5;
        static final int MINUS = 6;
        static final int STAR = 7;
        // The comparisons stand in the order of the codes from Code.EQUAL on.
        static final int EQUAL = 8;
        static final int NOT_EQUAL = 9;
        static final int LESS = 10;
        static final int LESS_EQUAL = 11;
        static final int GREATER = 12;
        static final int GREATER_EQUAL = 13;
        static final int OPEN = 14;
        static final int CLOSE = 15;
        static final int SQUARE_OPEN = 16;
        static final int SQUARE_CLOSE = 17;
        static final int COMMA = 18;
        static final int SEMICOLON = 19;
        static final int COLON = 20;
        static final int POINT = 21;
        static final int BECOMES = 22;
        static final int DOTS = 23;
        // From here on in the order of RESERVED.
        static final int CONST = 24;
        static final int TYPE = 25;
        static final int VAR = 26;
        static final int PROCEDURE = 27;
        static final int FUNCTION = 28;
        static final int BEGIN = 29;
        static final int END = 30;
        static final int IF = 31;
        static final int THEN = 32;
        static final int ELSE = 33;
        static final int WHILE = 34;
        static final int DO = 35;
        static final int REPEAT = 36;
        static final int UNTIL = 37;
        static final int FOR = 38;
        static final int TO = 39;
        static final int DOWNTO = 40;
        static final int CASE = 41;
        static final int OF = 42;
        static final int ARRAY = 43;
        static final int SET_OF_NUMBERS = 44;
        static final int DIV = 45;
        static final int MOD = 46;
        static final int AND = 47;
        static final int OR = 48;
        static final int NOT = 49;
        static final int IN = 50;
        static final int READ = 51;
        static final int WRITE = 52;
        static final int WRITELN = 53;

        private static final String RESERVED =
            "const type var procedure function begin end if then else while do repeat until for to downto case of array set div mod and or not in read write writeln";
        private static final int RESERVED_WORDS = 30;
        private static final int LONGEST_NAME = 12;
        private static final long NAME_BASE = 37;
        private static final long TOO_GREAT = 2147483648L;

        private final long[] reserved = new long[RESERVED_WORDS];
        private final int[] kinds = new int[TAPE_ROOM + 1];
        private final int[] starts = new int[TAPE_ROOM + 1];
        private final long[] values = new long[TAPE_ROOM + 1];
        private final Tape tape;
        private int position;
        private int count;
        private int current;
        private int failure;
        private int failedAt = NONE;

        Words(Tape tape) {
            this.tape = tape;
            encodeAll(RESERVED, reserved);
        }

        /** Twelve letters and figures fit into one long, so that names are compared without texts. */
        static void encodeAll(String line, long[] codes) {
            int word = 0;
            for (int i = 0; i < line.length() && word < codes.length; i++) {
                char c = line.charAt(i);
                if (c == ' ') {
                    word++;
                } else {
                    codes[word] = codes[word] * NAME_BASE + symbol(c);
                }
            }
        }

        private static int symbol(int b) {
            if (b >= 'a' && b <= 'z') {
                return b - 'a' + 1;
            }
            return isFigure(b) ? b - '0' + 27 : 0;
        }

        static boolean isFigure(int b) {
            return b >= '0' && b <= '9';
        }

        /** Splits the whole tape; what is no word is a fault only when its turn has come. */
        void scan() {
            position = 0;
            count = 0;
            current = NONE;
            failure = 0;
            failedAt = NONE;
            boolean going = true;
            for (int i = 0; i <= TAPE_ROOM && going; i++) {
                skipBlanks();
                scanWord();
                going = count > 0 && kinds[count - 1] > BAD;
            }
            next();
        }

        private void skipBlanks() {
            boolean going = true;
            for (int i = 0; i <= TAPE_ROOM && going; i++) {
                int b = tape.at(position);
                if (b == '{') {
                    int behind = behindRemark();
                    going = behind != NONE;
                    position = going ? behind : position;
                } else if (b != NONE && b <= ' ') {
                    position++;
                } else {
                    going = false;
                }
            }
        }

        private int behindRemark() {
            for (int i = position; i < tape.length(); i++) {
                if (tape.at(i) == '}') {
                    return i + 1;
                }
            }
            return NONE;
        }

        private void scanWord() {
            int b = tape.at(position);
            if (b == NONE) {
                add(END_OF_TAPE, position, 0);
            } else if (isFigure(b)) {
                scanNumber();
            } else if (symbol(b) > 0) {
                scanName();
            } else if (b == '\'') {
                scanString();
            } else {
                scanSign(b);
            }
        }

        private void add(int kind, int start, long value) {
            if (count < kinds.length) {
                kinds[count] = kind;
                starts[count] = start;
                values[count] = value;
                count++;
            }
        }

        private void scanNumber() {
            int start = position;
            long number = 0;
            while (position < tape.length() && isFigure(tape.at(position))) {
                number = Math.min(number * 10 + tape.at(position) - '0', TOO_GREAT);
                position++;
            }
            if (number > GREATEST_NUMBER) {
                add(BAD, start, TOO_MUCH);
            } else {
                add(NUMBER, start, number);
            }
        }

        private void scanName() {
            int start = position;
            long code = 0;
            while (position < tape.length() && symbol(tape.at(position)) > 0) {
                code = code * NAME_BASE + symbol(tape.at(position));
                position++;
            }
            if (position - start > LONGEST_NAME) {
                add(BAD, start, TOO_MUCH);
            } else {
                add(kindOf(code), start, code);
            }
        }

        private int kindOf(long code) {
            for (int i = 0; i < reserved.length; i++) {
                if (reserved[i] == code) {
                    return CONST + i;
                }
            }
            return NAME;
        }

        private void scanString() {
            int start = position;
            position++;
            while (position < tape.length() && isInString(tape.at(position))) {
                position++;
            }
            int bytes = position - start - 1;
            if (bytes > 0 && tape.at(position) == '\'') {
                position++;
                add(STRING, start, bytes);
            } else {
                add(BAD, start, CANNOT_COME);
            }
        }

        private static boolean isInString(int b) {
            return b >= 32 && b <= 126 && b != '\'';
        }

        private void scanSign(int b) {
            int start = position;
            int kind = pair(b, tape.at(position + 1));
            position += 2;
            if (kind == BAD) {
                kind = single(b);
                position--;
            }
            add(kind, start, CANNOT_COME);
        }

        private static int pair(int first, int second) {
            if (second == '=') {
                return first == ':' ? BECOMES : first == '<' ? LESS_EQUAL : first == '>' ? GREATER_EQUAL : BAD;
            }
            if (first == '<' && second == '>') {
                return NOT_EQUAL;
            }
            return first == '.' && second == '.' ? DOTS : BAD;
        }

        private static int single(int b) {
            switch (b) {
                case '+':
                    return PLUS;
                case '-':
                    return MINUS;
                case '*':
                    return STAR;
                case '=':
                    return EQUAL;
                case '<':
                    return LESS;
                case '>':
                    return GREATER;
                case '(':
                    return OPEN;
                case ')':
                    return CLOSE;
                case '[':
                    return SQUARE_OPEN;
                case ']':
                    return SQUARE_CLOSE;
                case ',':
                    return COMMA;
                case ';':
                    return SEMICOLON;
                case ':':
                    return COLON;
                case '.':
                    return POINT;
                default:
                    return BAD;
            }
        }

        int kind() {
            return current >= 0 && current < count ? kinds[current] : END_OF_TAPE;
        }

        boolean is(int kind) {
            return current >= 0 && current < count && kinds[current] == kind;
        }

        boolean isSign() {
            return is(PLUS) || is(MINUS);
        }

        boolean isComparison() {
            return kind() >= EQUAL && kind() <= GREATER_EQUAL;
        }

        /** A number's value, a name's code, or how many bytes a string has. */
        long value() {
            return current >= 0 && current < count ? values[current] : 0;
        }

        int begins() {
            return current >= 0 && current < count ? starts[current] : NONE;
        }

        int stringByte(int i) {
            return tape.at(begins() + 1L + i);
        }

        /** Of each word that is looked at the first question is whether it is one. */
        void next() {
            if (current < count) {
                current++;
            }
            if (current >= 0 && current < count && kinds[current] == BAD) {
                fail((int) values[current]);
            }
        }

        void take(int kind) {
            if (!is(kind)) {
                fail(CANNOT_COME);
            }
            next();
        }

        boolean takeIf(int kind) {
            boolean there = is(kind);
            if (there) {
                next();
            }
            return there;
        }

        void need(boolean fits) {
            if (!fits) {
                fail(DOES_NOT_FIT);
            }
        }

        void fail(int number) {
            failure = number;
            failedAt = current >= 0 && current < count ? starts[current] : NONE;
            throw new IllegalStateException("a fault");
        }

        int failure() {
            return failure;
        }

        int failedAt() {
            return failedAt;
        }
    }

    /** A kind; perhaps a range of it; with an element the range is that of an array. */
    private static final class Type {
        final int kind;
        final boolean ranged;
        final int low;
        final int high;
        final Type element;

        Type(int kind) {
            this.kind = kind;
            ranged = false;
            low = 0;
            high = 0;
            element = null;
        }

        Type(int kind, int low, int high, Type element) {
            this.kind = kind;
            ranged = true;
            this.low = low;
            this.high = high;
            this.element = element;
        }

        boolean isArray() {
            return element != null;
        }

        /** As a long, since the ends of a range may be further apart than an int tells. */
        long width() {
            return (long) high - low + 1;
        }

        int cells() {
            return isArray() ? (int) width() : 1;
        }

        boolean sameAs(Type other) {
            return kind == other.kind && ranged == other.ranged && low == other.low && high == other.high;
        }
    }

    /** A procedure, a function, or the program itself. */
    private static final class Routine {
        final int level;
        final Type[] types = new Type[MOST_PARAMETERS];
        final boolean[] byReference = new boolean[MOST_PARAMETERS];
        int parameters;
        int size = HEADER;
        int entry;
        Type result;
        boolean open;

        Routine(int level, Type result) {
            this.level = level;
            this.result = result;
        }

        void add(Type type, boolean reference) {
            if (parameters < types.length) {
                types[parameters] = type;
                byReference[parameters] = reference;
                parameters++;
            }
        }
    }

    private static final class Name {
        static final int UNKNOWN = 0;
        static final int PENDING = 1;
        static final int CONSTANT = 2;
        static final int TYPE = 3;
        static final int VARIABLE = 4;
        static final int PROCEDURE = 5;
        static final int FUNCTION = 6;
        static final int STANDARD = 7;

        long code;
        int sort;
        Type type;
        Routine routine;
        /** A constant's value, a variable's place in its block, or which of the known functions. */
        int value;
        int level;
        boolean byReference;

        Name(Type type, Routine routine) {
            this.type = type;
            this.routine = routine;
        }
    }

    /** The names of all blocks that are open, the innermost block's last. */
    private static final class Names {
        static final int ORD = 0;
        static final int CHR = 1;
        static final int SUCC = 2;
        static final int PRED = 3;
        static final int ODD = 4;
        static final int ABS = 5;
        static final int SQR = 6;
        static final int EOF = 7;
        static final int EOLN = 8;

        private static final String KNOWN = "integer char boolean false true ord chr succ pred odd abs sqr eof eoln";
        private static final int OUTSIDE = 14;
        private static final int FIRST_CONSTANT = 3;
        private static final int FIRST_FUNCTION = 5;
        private static final int MOST_NAMES = 120;

        final Type integers = new Type(INTEGER);
        private final Type chars = new Type(CHAR);
        private final Type booleans = new Type(BOOLEAN);
        private final Routine noRoutine = new Routine(0, integers);
        private final Name unknown = new Name(integers, noRoutine);
        private final Name[] pool = new Name[OUTSIDE + MOST_NAMES];
        private int count = OUTSIDE;
        private int firstOfBlock = OUTSIDE;
        private int level;

        Names() {
            long[] codes = new long[OUTSIDE];
            Words.encodeAll(KNOWN, codes);
            for (int i = 0; i < pool.length; i++) {
                pool[i] = new Name(integers, noRoutine);
                if (i < codes.length) {
                    pool[i].code = codes[i];
                    pool[i].type = ofKind(i < FIRST_CONSTANT ? i : BOOLEAN);
                    pool[i].sort = i < FIRST_CONSTANT ? Name.TYPE : i < FIRST_FUNCTION ? Name.CONSTANT : Name.STANDARD;
                    pool[i].value = i < FIRST_FUNCTION ? i - FIRST_CONSTANT : i - FIRST_FUNCTION;
                }
            }
        }

        private Type ofKind(int kind) {
            return kind == INTEGER ? integers : kind == CHAR ? chars : booleans;
        }

        void forgetAll() {
            count = OUTSIDE;
            firstOfBlock = OUTSIDE;
            level = 0;
        }

        int level() {
            return level;
        }

        int count() {
            return count;
        }

        /** Answers what closeBlock() wants back. */
        int openBlock() {
            int outer = firstOfBlock;
            firstOfBlock = count;
            level++;
            return outer;
        }

        void closeBlock(int outer) {
            count = firstOfBlock;
            firstOfBlock = outer;
            level--;
        }

        Name at(int i) {
            return i < 0 || i >= count || i >= pool.length ? unknown : pool[i];
        }

        /** A name whose declaration has not ended hides nothing yet. */
        Name find(long code) {
            for (int i = Math.min(count, pool.length) - 1; i >= 0; i--) {
                if (pool[i].code == code && pool[i].sort != Name.PENDING) {
                    return pool[i];
                }
            }
            return unknown;
        }

        boolean isDeclaredHere(long code) {
            for (int i = firstOfBlock; i < count; i++) {
                if (at(i).code == code) {
                    return true;
                }
            }
            return false;
        }

        boolean isFull() {
            return count >= pool.length;
        }

        Name declare(long code) {
            if (isFull()) {
                return unknown;
            }
            Name name = pool[count];
            count++;
            name.code = code;
            name.sort = Name.PENDING;
            name.level = level;
            return name;
        }

        void becomeConstant(Name name, int kind, int value) {
            name.type = ofKind(kind);
            name.value = value;
            name.sort = Name.CONSTANT;
        }
    }

    /** What the machine goes through, and for each cell of it where the statement began that it came from. */
    private static final class Code {
        static final int HALT = 0;
        static final int STEP = 1;
        static final int JUMP = 2;
        static final int JUMP_FALSE = 3;
        static final int WHEN = 4;
        static final int NO_CASE = 5;
        static final int CALL = 6;
        static final int RETURN = 7;
        static final int RETURN_VALUE = 8;
        static final int FOR_UP = 9;
        static final int FOR_DOWN = 10;
        static final int FOR_NEXT = 11;
        static final int FOR_END = 12;

        static final int LITERAL = 13;
        static final int ADDRESS = 14;
        static final int REFERENCE = 15;
        static final int INDEX = 16;
        static final int FETCH = 17;
        static final int STORE = 18;
        static final int CHECK = 19;
        static final int ADD_ELEMENT = 20;
        static final int ADD_SPAN = 21;

        static final int READ_NUMBER = 22;
        static final int READ_CHAR = 23;
        static final int AT_END = 24;
        static final int AT_LINE_END = 25;
        static final int WRITE_NUMBER = 26;
        static final int WRITE_BOOLEAN = 27;
        static final int WRITE_CHAR = 28;
        static final int WRITE_STRING = 29;
        static final int WRITE_LINE = 30;

        static final int NEGATE = 31;
        static final int NOT = 32;
        static final int ABS = 33;
        static final int SQR = 34;
        static final int ODD = 35;

        static final int ADD = 36;
        static final int SUBTRACT = 37;
        static final int MULTIPLY = 38;
        static final int DIVIDE = 39;
        static final int REMAINDER = 40;
        static final int UNION = 41;
        static final int WITHOUT = 42;
        static final int BOTH = 43;
        static final int EQUAL = 44;
        static final int NOT_EQUAL = 45;
        static final int LESS = 46;
        static final int LESS_EQUAL = 47;
        static final int GREATER = 48;
        static final int GREATER_EQUAL = 49;
        static final int IN = 50;

        private static final int FIRST_ROOM = 2048;

        private int[] cells = new int[FIRST_ROOM];
        private int[] origins = new int[FIRST_ROOM];
        private int length;
        /** Where the statement begins that is being translated. */
        int origin = NONE;
        int frame;
        int routines;

        int length() {
            return length;
        }

        void clear() {
            length = 0;
            origin = NONE;
            routines = 0;
        }

        void emit(int cell) {
            if (length >= cells.length) {
                cells = Arrays.copyOf(cells, 2 * cells.length);
                origins = Arrays.copyOf(origins, cells.length);
            }
            if (length < cells.length && length < origins.length) {
                cells[length] = cell;
                origins[length] = origin;
                length++;
            }
        }

        void emitTwo(int code, int first, int second) {
            emit(code);
            emit(first);
            emit(second);
        }

        void emitOne(int code, int first) {
            emit(code);
            emit(first);
        }

        /** Emits a jump to somewhere ahead; the cell of its aim holds the aimless one before it in the chain. */
        int emitAimless(int code, int chain) {
            emit(code);
            emit(chain);
            return length - 1;
        }

        /** All aimless jumps of the chain go to here. */
        void land(int chain) {
            int aimless = chain;
            for (int i = 0; i < length && aimless >= 0 && aimless < length; i++) {
                int before = cells[aimless];
                cells[aimless] = length;
                aimless = before;
            }
        }

        void become(Code other) {
            if (cells.length < other.length || origins.length < other.length) {
                cells = new int[other.cells.length];
                origins = new int[other.cells.length];
            }
            System.arraycopy(other.cells, 0, cells, 0, other.length);
            System.arraycopy(other.origins, 0, origins, 0, other.length);
            length = other.length;
            frame = other.frame;
            routines = other.routines;
        }

        int at(int i) {
            return i < 0 || i >= length ? HALT : cells[i];
        }

        int originOf(int i) {
            return i < 0 || i >= length ? NONE : origins[i];
        }
    }

    /** Reads expressions, variables and constants; methods for expressions answer kinds. */
    private static final class Expressions {
        private final Words words;
        private final Names names;
        private final Code code;
        private int constantValue;

        Expressions(Words words, Names names, Code code) {
            this.words = words;
            this.names = names;
            this.code = code;
        }

        int constantValue() {
            return constantValue;
        }

        /** Answers the kind; the value is kept for constantValue(). */
        int constant() {
            boolean signed = words.isSign();
            boolean negative = words.is(Words.MINUS);
            if (signed) {
                words.next();
            }
            int kind = INTEGER;
            if (words.is(Words.NUMBER)) {
                constantValue = (int) words.value();
                words.next();
            } else if (words.is(Words.NAME)) {
                Name name = known(Name.CONSTANT);
                kind = name.type.kind;
                constantValue = name.value;
                words.next();
                words.need(!signed || kind == INTEGER);
            } else if (!signed && isOneByte()) {
                kind = CHAR;
                constantValue = words.stringByte(0);
                words.next();
            } else {
                words.fail(CANNOT_COME);
            }
            constantValue = negative ? -constantValue : constantValue;
            return kind;
        }

        private boolean isOneByte() {
            return words.is(Words.STRING) && words.value() == 1;
        }

        /** The name that is looked at, where only names of that sort may stand, or, for UNKNOWN, of any. */
        Name known(int sort) {
            if (!words.is(Words.NAME)) {
                words.fail(CANNOT_COME);
            }
            Name name = names.find(words.value());
            if (name.sort == Name.UNKNOWN) {
                words.fail(NOT_KNOWN);
            }
            if (sort != Name.UNKNOWN && sort != name.sort) {
                words.fail(CANNOT_COME);
            }
            return name;
        }

        int expression(int depth) {
            if (depth > DEEPEST) {
                words.fail(TOO_MUCH);
            }
            int left = simple(depth);
            if (words.takeIf(Words.IN)) {
                int right = simple(depth);
                words.need(left == INTEGER && right == SET);
                code.emit(Code.IN);
                return BOOLEAN;
            }
            if (words.isComparison()) {
                int sign = words.kind();
                words.next();
                int right = simple(depth);
                words.need(left == right && (left != SET || sign <= Words.NOT_EQUAL));
                code.emit(Code.EQUAL + sign - Words.EQUAL);
                return BOOLEAN;
            }
            return left;
        }

        private int simple(int depth) {
            boolean signed = words.isSign();
            boolean negative = words.is(Words.MINUS);
            if (signed) {
                words.next();
            }
            int kind = term(depth);
            words.need(!signed || kind == INTEGER);
            if (negative) {
                code.emit(Code.NEGATE);
            }
            for (int i = 0; i < TAPE_ROOM && (words.isSign() || words.is(Words.OR)); i++) {
                int operator = words.kind();
                words.next();
                int right = term(depth);
                words.need(kind == right && takes(operator, kind));
                code.emit(operation(operator, kind));
            }
            return kind;
        }

        private int term(int depth) {
            int kind = factor(depth);
            for (int i = 0; i < TAPE_ROOM && isMultiplying(words.kind()); i++) {
                int operator = words.kind();
                words.next();
                int right = factor(depth);
                words.need(kind == right && takes(operator, kind));
                code.emit(operation(operator, kind));
            }
            return kind;
        }

        private static boolean isMultiplying(int word) {
            return word == Words.STAR || word == Words.DIV || word == Words.MOD || word == Words.AND;
        }

        private static boolean takes(int operator, int kind) {
            switch (operator) {
                case Words.AND:
                case Words.OR:
                    return kind == BOOLEAN;
                case Words.DIV:
                case Words.MOD:
                    return kind == INTEGER;
                default:
                    return kind == INTEGER || kind == SET;
            }
        }

        /** Booleans are 0 and 1, so that what joins sets joins them as well. */
        private static int operation(int operator, int kind) {
            switch (operator) {
                case Words.PLUS:
                    return kind == SET ? Code.UNION : Code.ADD;
                case Words.MINUS:
                    return kind == SET ? Code.WITHOUT : Code.SUBTRACT;
                case Words.STAR:
                    return kind == SET ? Code.BOTH : Code.MULTIPLY;
                case Words.DIV:
                    return Code.DIVIDE;
                case Words.MOD:
                    return Code.REMAINDER;
                case Words.AND:
                    return Code.BOTH;
                default:
                    return Code.UNION;
            }
        }

        private int factor(int depth) {
            switch (words.kind()) {
                case Words.NUMBER:
                case Words.STRING:
                    int kind = constant();
                    code.emitOne(Code.LITERAL, constantValue);
                    return kind;
                case Words.NAME:
                    return named(depth);
                case Words.OPEN:
                    words.next();
                    int inner = expression(depth + 1);
                    words.take(Words.CLOSE);
                    return inner;
                case Words.NOT:
                    return negation(depth);
                case Words.SQUARE_OPEN:
                    return setOfElements(depth);
                default:
                    words.fail(CANNOT_COME);
                    return INTEGER;
            }
        }

        private int negation(int depth) {
            words.next();
            if (depth + 1 > DEEPEST) {
                words.fail(TOO_MUCH);
            }
            int kind = factor(depth + 1);
            words.need(kind == BOOLEAN);
            code.emit(Code.NOT);
            return BOOLEAN;
        }

        private int setOfElements(int depth) {
            words.next();
            code.emitOne(Code.LITERAL, 0);
            if (!words.is(Words.SQUARE_CLOSE)) {
                element(depth);
                for (int i = 0; i < TAPE_ROOM && words.takeIf(Words.COMMA); i++) {
                    element(depth);
                }
            }
            words.take(Words.SQUARE_CLOSE);
            return SET;
        }

        private void element(int depth) {
            words.need(expression(depth + 1) == INTEGER);
            if (words.takeIf(Words.DOTS)) {
                words.need(expression(depth + 1) == INTEGER);
                code.emit(Code.ADD_SPAN);
            } else {
                code.emit(Code.ADD_ELEMENT);
            }
        }

        private int named(int depth) {
            Name name = known(Name.UNKNOWN);
            switch (name.sort) {
                case Name.CONSTANT:
                    words.next();
                    code.emitOne(Code.LITERAL, name.value);
                    return name.type.kind;
                case Name.VARIABLE:
                    Type type = variable(name, depth);
                    code.emit(Code.FETCH);
                    return type.kind;
                case Name.FUNCTION:
                    call(name.routine, depth);
                    return name.routine.result.kind;
                case Name.STANDARD:
                    return standard(name.value, depth);
                default:
                    words.fail(CANNOT_COME);
                    return INTEGER;
            }
        }

        /** Leaves the address of the variable whose name is looked at; answers what may be put there. */
        Type variable(Name name, int depth) {
            words.next();
            code.emitTwo(name.byReference ? Code.REFERENCE : Code.ADDRESS, names.level() - name.level, name.value);
            Type type = name.type;
            if (type.element == null) {
                return type;
            }
            words.take(Words.SQUARE_OPEN);
            words.need(expression(depth + 1) == type.kind);
            code.emitTwo(Code.INDEX, type.low, type.high);
            words.take(Words.SQUARE_CLOSE);
            return type.element;
        }

        /** The value at hand is put where only some of its kind's values may be. */
        void checkRange(Type type) {
            if (type.ranged) {
                code.emitTwo(Code.CHECK, type.low, type.high);
            }
        }

        void call(Routine routine, int depth) {
            words.next();
            for (int i = 0; i < routine.parameters && i < MOST_PARAMETERS; i++) {
                words.take(i == 0 ? Words.OPEN : Words.COMMA);
                argument(routine.types[i], routine.byReference[i], depth);
            }
            if (routine.parameters > 0) {
                words.take(Words.CLOSE);
            }
            code.emitOne(Code.CALL, names.level() - routine.level + 1);
            code.emitTwo(routine.entry, routine.parameters, routine.size);
        }

        private void argument(Type wanted, boolean byReference, int depth) {
            if (byReference) {
                Type given = variable(known(Name.VARIABLE), depth);
                words.need(given.sameAs(wanted));
            } else {
                words.need(expression(depth + 1) == wanted.kind);
                checkRange(wanted);
            }
        }

        private int standard(int function, int depth) {
            words.next();
            if (function == Names.EOF || function == Names.EOLN) {
                code.emit(function == Names.EOF ? Code.AT_END : Code.AT_LINE_END);
                return BOOLEAN;
            }
            words.take(Words.OPEN);
            int kind = expression(depth + 1);
            boolean anyKind = function == Names.ORD || function == Names.SUCC || function == Names.PRED;
            words.need(anyKind ? kind != SET : kind == INTEGER);
            int result = apply(function, kind);
            words.take(Words.CLOSE);
            return result;
        }

        private int apply(int function, int kind) {
            switch (function) {
                case Names.ORD:
                    return INTEGER;
                case Names.CHR:
                    code.emitTwo(Code.CHECK, 0, GREATEST_CHAR);
                    return CHAR;
                case Names.SUCC:
                case Names.PRED:
                    code.emitOne(Code.LITERAL, 1);
                    code.emit(function == Names.SUCC ? Code.ADD : Code.SUBTRACT);
                    if (kind != INTEGER) {
                        code.emitTwo(Code.CHECK, 0, kind == CHAR ? GREATEST_CHAR : 1);
                    }
                    return kind;
                case Names.ODD:
                    code.emit(Code.ODD);
                    return BOOLEAN;
                default:
                    code.emit(function == Names.ABS ? Code.ABS : Code.SQR);
                    return INTEGER;
            }
        }
    }

    /** Reads statements. */
    private static final class Statements {
        private final Words words;
        private final Names names;
        private final Code code;
        private final Expressions expressions;
        /** The constants of all cases that are open, so that one that comes twice is seen. */
        private final int[] labels = new int[TAPE_ROOM];
        private int labelCount;

        Statements(Words words, Names names, Code code, Expressions expressions) {
            this.words = words;
            this.names = names;
            this.code = code;
            this.expressions = expressions;
        }

        void forgetLabels() {
            labelCount = 0;
        }

        void sequence(int depth) {
            statement(depth);
            for (int i = 0; i < TAPE_ROOM && words.takeIf(Words.SEMICOLON); i++) {
                statement(depth);
            }
        }

        private void statement(int depth) {
            if (depth > DEEPEST) {
                words.fail(TOO_MUCH);
            }
            int outer = code.origin;
            code.origin = words.begins();
            if (words.takeIf(Words.BEGIN)) {
                sequence(depth + 1);
                words.take(Words.END);
            } else {
                counted(depth);
            }
            code.origin = outer;
        }

        /** What no statement begins with is left to the one that called: here is nothing. */
        private void counted(int depth) {
            switch (words.kind()) {
                case Words.NAME:
                    named(depth);
                    break;
                case Words.IF:
                    choiceOfTwo(depth);
                    break;
                case Words.WHILE:
                    whileLoop(depth);
                    break;
                case Words.REPEAT:
                    repeatLoop(depth);
                    break;
                case Words.FOR:
                    forLoop(depth);
                    break;
                case Words.CASE:
                    choiceOfMany(depth);
                    break;
                case Words.READ:
                    reading(depth);
                    break;
                case Words.WRITE:
                    step();
                    items(depth);
                    break;
                case Words.WRITELN:
                    step();
                    if (words.is(Words.OPEN)) {
                        items(depth);
                    }
                    code.emit(Code.WRITE_LINE);
                    break;
                default:
                    break;
            }
        }

        private void step() {
            code.emit(Code.STEP);
            words.next();
        }

        private void named(int depth) {
            Name name = expressions.known(Name.UNKNOWN);
            code.emit(Code.STEP);
            if (name.sort == Name.PROCEDURE) {
                expressions.call(name.routine, depth);
                return;
            }
            Type type = name.routine.result;
            if (name.sort == Name.VARIABLE) {
                type = expressions.variable(name, depth);
            } else if (name.sort == Name.FUNCTION && name.routine.open) {
                words.next();
                code.emitTwo(Code.ADDRESS, names.level() - name.routine.level, RESULT);
            } else {
                words.fail(CANNOT_COME);
            }
            words.take(Words.BECOMES);
            words.need(expressions.expression(depth + 1) == type.kind);
            expressions.checkRange(type);
            code.emit(Code.STORE);
        }

        private void condition(int depth) {
            words.need(expressions.expression(depth + 1) == BOOLEAN);
        }

        private void choiceOfTwo(int depth) {
            step();
            condition(depth);
            words.take(Words.THEN);
            int otherwise = code.emitAimless(Code.JUMP_FALSE, NONE);
            statement(depth + 1);
            if (words.takeIf(Words.ELSE)) {
                int behind = code.emitAimless(Code.JUMP, NONE);
                code.land(otherwise);
                statement(depth + 1);
                code.land(behind);
            } else {
                code.land(otherwise);
            }
        }

        private void whileLoop(int depth) {
            step();
            int again = code.length();
            condition(depth);
            words.take(Words.DO);
            int behind = code.emitAimless(Code.JUMP_FALSE, NONE);
            code.emit(Code.STEP);
            statement(depth + 1);
            code.emitOne(Code.JUMP, again);
            code.land(behind);
        }

        private void repeatLoop(int depth) {
            step();
            int again = code.length();
            code.emit(Code.STEP);
            sequence(depth + 1);
            words.take(Words.UNTIL);
            condition(depth);
            code.emitOne(Code.JUMP_FALSE, again);
        }

        private void forLoop(int depth) {
            step();
            Name name = expressions.known(Name.VARIABLE);
            if (name.type.isArray() || name.type.kind == SET) {
                words.fail(CANNOT_COME);
            }
            Type type = expressions.variable(name, depth);
            words.take(Words.BECOMES);
            words.need(expressions.expression(depth + 1) == type.kind);
            boolean upward = words.is(Words.TO);
            words.take(upward ? Words.TO : Words.DOWNTO);
            words.need(expressions.expression(depth + 1) == type.kind);
            words.take(Words.DO);
            int again = code.length();
            int behind = code.emitAimless(upward ? Code.FOR_UP : Code.FOR_DOWN, NONE);
            expressions.checkRange(type);
            code.emit(Code.STORE);
            code.emit(Code.STEP);
            statement(depth + 1);
            code.emitTwo(Code.FOR_NEXT, upward ? 1 : -1, again);
            code.land(behind);
            code.emit(Code.FOR_END);
        }

        private void choiceOfMany(int depth) {
            step();
            int kind = expressions.expression(depth + 1);
            words.need(kind != SET);
            words.take(Words.OF);
            int firstLabel = labelCount;
            int behind = choice(kind, firstLabel, NONE, depth);
            for (int i = 0; i < TAPE_ROOM && words.takeIf(Words.SEMICOLON); i++) {
                if (!words.is(Words.SEMICOLON) && !words.is(Words.END)) {
                    behind = choice(kind, firstLabel, behind, depth);
                }
            }
            words.take(Words.END);
            code.emit(Code.NO_CASE);
            code.land(behind);
            labelCount = firstLabel;
        }

        /** Answers the chain of jumps behind the whole case, this choice's own among them. */
        private int choice(int kind, int firstLabel, int behind, int depth) {
            int chosen = label(kind, firstLabel, NONE);
            for (int i = 0; i < TAPE_ROOM && words.takeIf(Words.COMMA); i++) {
                chosen = label(kind, firstLabel, chosen);
            }
            words.take(Words.COLON);
            int otherwise = code.emitAimless(Code.JUMP, NONE);
            code.land(chosen);
            statement(depth + 1);
            int chain = code.emitAimless(Code.JUMP, behind);
            code.land(otherwise);
            return chain;
        }

        private int label(int kind, int firstLabel, int chosen) {
            words.need(expressions.constant() == kind);
            int value = expressions.constantValue();
            for (int i = firstLabel; i < labelCount && i < labels.length; i++) {
                words.need(labels[i] != value);
            }
            if (labelCount < labels.length) {
                labels[labelCount] = value;
                labelCount++;
            }
            code.emit(Code.WHEN);
            return code.emitAimless(value, chosen);
        }

        private void reading(int depth) {
            step();
            words.take(Words.OPEN);
            boolean more = true;
            for (int i = 0; i < TAPE_ROOM && more; i++) {
                Type type = expressions.variable(expressions.known(Name.VARIABLE), depth);
                words.need(type.kind == INTEGER || type.kind == CHAR);
                code.emit(type.kind == INTEGER ? Code.READ_NUMBER : Code.READ_CHAR);
                expressions.checkRange(type);
                code.emit(Code.STORE);
                more = words.takeIf(Words.COMMA);
            }
            words.take(Words.CLOSE);
        }

        private void items(int depth) {
            words.take(Words.OPEN);
            boolean more = true;
            for (int i = 0; i < TAPE_ROOM && more; i++) {
                if (words.is(Words.STRING) && words.value() > 1) {
                    longString();
                } else {
                    int kind = expressions.expression(depth + 1);
                    words.need(kind != SET);
                    code.emit(writingOf(kind));
                }
                more = words.takeIf(Words.COMMA);
            }
            words.take(Words.CLOSE);
        }

        private void longString() {
            code.emitOne(Code.WRITE_STRING, (int) words.value());
            for (int i = 0; i < TAPE_ROOM && i < words.value(); i++) {
                code.emit(words.stringByte(i));
            }
            words.next();
        }

        private static int writingOf(int kind) {
            return kind == INTEGER ? Code.WRITE_NUMBER : kind == CHAR ? Code.WRITE_CHAR : Code.WRITE_BOOLEAN;
        }
    }

    /** Reads blocks with their declarations. */
    private static final class Blocks {
        private static final int ANY_TYPE = 0;
        private static final int NO_ARRAY = 1;
        private static final int RANGE_ALONE = 2;

        private final Words words;
        private final Code code;
        private final Names names = new Names();
        private final Expressions expressions;
        private final Statements statements;

        Blocks(Words words, Code code) {
            this.words = words;
            this.code = code;
            expressions = new Expressions(words, names, code);
            statements = new Statements(words, names, code, expressions);
        }

        Routine begin() {
            names.forgetAll();
            statements.forgetLabels();
            code.clear();
            names.openBlock();
            return new Routine(names.level(), names.integers);
        }

        void end(Routine program) {
            words.take(Words.POINT);
            if (!words.is(Words.END_OF_TAPE)) {
                words.fail(CANNOT_COME);
            }
            code.emit(Code.HALT);
            code.frame = program.size;
        }

        /** The code of inner blocks comes before that of the block's own statements, and is jumped over. */
        void block(Routine routine) {
            routine.entry = code.length();
            int body = code.emitAimless(Code.JUMP, NONE);
            constants();
            types();
            variables(routine);
            for (int i = 0; i < TAPE_ROOM && isRoutine(); i++) {
                innerRoutine();
            }
            words.take(Words.BEGIN);
            code.land(body);
            statements.sequence(1);
            words.take(Words.END);
        }

        private boolean isRoutine() {
            return words.is(Words.PROCEDURE) || words.is(Words.FUNCTION);
        }

        private Name declare(boolean tooMany) {
            if (!words.is(Words.NAME)) {
                words.fail(CANNOT_COME);
            }
            if (names.isDeclaredHere(words.value())) {
                words.fail(DECLARED_TWICE);
            }
            if (tooMany || names.isFull()) {
                words.fail(TOO_MUCH);
            }
            Name name = names.declare(words.value());
            words.next();
            return name;
        }

        private void constants() {
            boolean more = words.takeIf(Words.CONST);
            for (int i = 0; i < TAPE_ROOM && more; i++) {
                Name name = declare(false);
                words.take(Words.EQUAL);
                int kind = expressions.constant();
                words.take(Words.SEMICOLON);
                names.becomeConstant(name, kind, expressions.constantValue());
                more = words.is(Words.NAME);
            }
        }

        private void types() {
            boolean more = words.takeIf(Words.TYPE);
            for (int i = 0; i < TAPE_ROOM && more; i++) {
                Name name = declare(false);
                words.take(Words.EQUAL);
                name.type = type();
                words.take(Words.SEMICOLON);
                name.sort = Name.TYPE;
                more = words.is(Words.NAME);
            }
        }

        private void variables(Routine routine) {
            boolean more = words.takeIf(Words.VAR);
            for (int i = 0; i < TAPE_ROOM && more; i++) {
                int first = names.count();
                declare(false);
                for (int k = 0; k < TAPE_ROOM && words.takeIf(Words.COMMA); k++) {
                    declare(false);
                }
                words.take(Words.COLON);
                Type type = type();
                words.take(Words.SEMICOLON);
                settle(routine, first, type, false);
                more = words.is(Words.NAME);
            }
        }

        /** Gives the names of a group, which are known from here on, their cells. */
        private void settle(Routine routine, int first, Type type, boolean byReference) {
            for (int i = first; i < names.count(); i++) {
                Name name = names.at(i);
                name.type = type;
                name.byReference = byReference;
                name.value = routine.size;
                name.sort = Name.VARIABLE;
                routine.size += type.cells();
            }
        }

        private Type type() {
            if (!words.takeIf(Words.ARRAY)) {
                return plainType(ANY_TYPE);
            }
            words.take(Words.SQUARE_OPEN);
            Type index = plainType(RANGE_ALONE);
            if (!words.is(Words.SQUARE_CLOSE)) {
                words.fail(CANNOT_COME);
            }
            if (index.width() > LONGEST_ARRAY) {
                words.fail(TOO_MUCH);
            }
            words.next();
            words.take(Words.OF);
            return new Type(index.kind, index.low, index.high, plainType(NO_ARRAY));
        }

        /** A type that is not written out as an array: a name, a range, or set. */
        private Type plainType(int allowed) {
            if (allowed != RANGE_ALONE && words.takeIf(Words.SET_OF_NUMBERS)) {
                return new Type(SET);
            }
            if (words.is(Words.NAME) && expressions.known(Name.UNKNOWN).sort != Name.CONSTANT) {
                return typeByName(allowed);
            }
            int kind = expressions.constant();
            int low = expressions.constantValue();
            words.take(Words.DOTS);
            int kindOfHigh = expressions.constant();
            int high = expressions.constantValue();
            words.need(kind == kindOfHigh && (kind == INTEGER || kind == CHAR) && low <= high);
            return new Type(kind, low, high, null);
        }

        private Type typeByName(int allowed) {
            Name name = expressions.known(Name.TYPE);
            boolean unfit = allowed == RANGE_ALONE && !name.type.ranged || allowed != ANY_TYPE && name.type.isArray();
            if (unfit) {
                words.fail(CANNOT_COME);
            }
            words.next();
            return name.type;
        }

        private void innerRoutine() {
            if (names.level() >= MOST_LEVELS) {
                words.fail(TOO_MUCH);
            }
            boolean function = words.is(Words.FUNCTION);
            words.next();
            Name name = declare(false);
            Routine routine = new Routine(names.level() + 1, names.integers);
            name.routine = routine;
            name.sort = function ? Name.FUNCTION : Name.PROCEDURE;
            code.routines++;
            int outer = names.openBlock();
            heading(routine, function);
            routine.open = true;
            block(routine);
            code.emit(function ? Code.RETURN_VALUE : Code.RETURN);
            routine.open = false;
            names.closeBlock(outer);
            words.take(Words.SEMICOLON);
        }

        private void heading(Routine routine, boolean function) {
            if (words.takeIf(Words.OPEN)) {
                parameterGroup(routine);
                for (int i = 0; i < TAPE_ROOM && words.takeIf(Words.SEMICOLON); i++) {
                    parameterGroup(routine);
                }
                words.take(Words.CLOSE);
            }
            if (function) {
                words.take(Words.COLON);
                routine.result = typeByName(NO_ARRAY);
            }
            words.take(Words.SEMICOLON);
        }

        private void parameterGroup(Routine routine) {
            boolean byReference = words.takeIf(Words.VAR);
            int first = names.count();
            declare(routine.parameters >= MOST_PARAMETERS);
            for (int i = 0; i < TAPE_ROOM && words.takeIf(Words.COMMA); i++) {
                declare(routine.parameters + names.count() - first >= MOST_PARAMETERS);
            }
            words.take(Words.COLON);
            Type type = typeByName(NO_ARRAY);
            for (int i = first; i < names.count(); i++) {
                routine.add(type, byReference);
            }
            settle(routine, first, type, byReference);
        }
    }

    /** Runs a program, and keeps what is told of its last run. */
    private static final class Machine {
        private static final int RUNNING = -1;
        private static final int ENDED = 0;
        private static final int UNDEFINED = 1;
        private static final int DIVISION = 2;
        private static final int RANGE = 3;
        private static final int NO_CASE = 4;
        private static final int READING = 5;
        private static final int ROOM = 6;
        private static final int OUT_OF_STEPS = 7;

        private static final int UNWRITTEN = 0;
        private static final int WRITTEN = 1;
        private static final int CELL_ROOM = 3000;
        private static final int BLOCK_ROOM = 200;
        private static final int FIRST_STACK = 512;
        private static final int NEW_LINE = 10;
        private static final int FIGURES = 10;
        private static final long TOO_GREAT = 2147483648L;
        /** Far above what 20000 steps can need. */
        private static final int MOST_INSTRUCTIONS = 1000000000;

        private final Code program;
        private final Tape entered;
        private final Tape output = new Tape();
        private final long[] cells = new long[CELL_ROOM];
        private final byte[] marks = new byte[CELL_ROOM];
        private long[] stack = new long[FIRST_STACK];
        private int height;
        private int base;
        private int top;
        private int blocks;
        private int next;
        private int current;
        private int ending;
        private int errorPlace = NONE;
        private int limit;
        private int steps;
        private int mostBlocks;
        private int mostCells;
        private int bytesRead;

        Machine(Code program, Tape entered) {
            this.program = program;
            this.entered = entered;
        }

        Tape output() {
            return output;
        }

        int errorPlace() {
            return errorPlace;
        }

        int steps() {
            return steps;
        }

        int mostBlocks() {
            return mostBlocks;
        }

        int mostCells() {
            return mostCells;
        }

        int bytesRead() {
            return bytesRead;
        }

        int execute(int mostSteps) {
            startAgain(mostSteps);
            if (!enter(0, program.frame)) {
                ending = ROOM;
            }
            for (int i = 0; i < MOST_INSTRUCTIONS && ending == RUNNING; i++) {
                current = next;
                perform(operand());
            }
            return ending == RUNNING ? OUT_OF_STEPS : ending;
        }

        private void startAgain(int mostSteps) {
            limit = mostSteps;
            output.clear();
            height = 0;
            base = 0;
            top = 0;
            blocks = 0;
            next = 0;
            current = 0;
            ending = RUNNING;
            errorPlace = NONE;
            steps = 0;
            mostBlocks = 0;
            mostCells = 0;
            bytesRead = 0;
        }

        private int operand() {
            int cell = program.at(next);
            next++;
            return cell;
        }

        private void error(int number) {
            ending = number;
            errorPlace = program.originOf(current);
        }

        private void push(long value) {
            if (height >= stack.length) {
                stack = Arrays.copyOf(stack, 2 * stack.length);
            }
            if (height >= 0 && height < stack.length) {
                stack[height] = value;
                height++;
            }
        }

        private void pushTruth(boolean value) {
            push(value ? 1 : 0);
        }

        private long pop() {
            if (height <= 0 || height > stack.length) {
                return 0;
            }
            height--;
            return stack[height];
        }

        /** The value that lies under so many others. */
        private long peek(int under) {
            int i = height - 1 - under;
            return i >= 0 && i < stack.length ? stack[i] : 0;
        }

        private static boolean isCell(long address) {
            return address >= 0 && address < CELL_ROOM;
        }

        private long cell(long address) {
            return isCell(address) ? cells[(int) address] : 0;
        }

        private boolean isDefined(long address) {
            return isCell(address) && marks[(int) address] == WRITTEN;
        }

        private void put(long address, long value) {
            if (isCell(address)) {
                cells[(int) address] = value;
                marks[(int) address] = WRITTEN;
            }
        }

        private void forget(long address) {
            if (isCell(address)) {
                marks[(int) address] = UNWRITTEN;
            }
        }

        private boolean enter(int outward, int size) {
            if (blocks >= BLOCK_ROOM || size < 0 || size > CELL_ROOM - top) {
                return false;
            }
            Arrays.fill(marks, top, top + size, (byte) UNWRITTEN);
            put(top + LINK_OUTWARD, outward);
            put(top + LINK_BACK, base);
            put(top + GOES_ON, next);
            base = top;
            top += size;
            blocks++;
            mostBlocks = Math.max(mostBlocks, blocks);
            mostCells = Math.max(mostCells, top);
            return true;
        }

        private void leave() {
            top = base;
            next = (int) cell(base + GOES_ON);
            base = (int) cell(base + LINK_BACK);
            blocks--;
        }

        /** Where the cells begin of the block that stands so many blocks around the one that runs. */
        private int blockAround(int hops) {
            int around = base;
            for (int i = 0; i < hops; i++) {
                around = (int) cell(around + LINK_OUTWARD);
            }
            return around;
        }

        private void perform(int instruction) {
            if (instruction >= Code.ADD) {
                long right = pop();
                binary(instruction, pop(), right);
            } else if (instruction >= Code.NEGATE) {
                unary(instruction, pop());
            } else if (instruction >= Code.READ_NUMBER) {
                transfer(instruction);
            } else if (instruction >= Code.LITERAL) {
                handle(instruction);
            } else {
                control(instruction);
            }
        }

        private void control(int instruction) {
            switch (instruction) {
                case Code.STEP:
                    step();
                    break;
                case Code.JUMP:
                    next = operand();
                    break;
                case Code.JUMP_FALSE:
                    int otherwise = operand();
                    next = pop() == 0 ? otherwise : next;
                    break;
                case Code.WHEN:
                    when(operand(), operand());
                    break;
                case Code.NO_CASE:
                    error(NO_CASE);
                    break;
                case Code.CALL:
                    call();
                    break;
                case Code.RETURN:
                    leave();
                    break;
                case Code.RETURN_VALUE:
                    returnValue();
                    break;
                case Code.FOR_UP:
                    forValue(peek(1) <= peek(0), operand());
                    break;
                case Code.FOR_DOWN:
                    forValue(peek(1) >= peek(0), operand());
                    break;
                case Code.FOR_NEXT:
                    forNext(operand(), operand());
                    break;
                case Code.FOR_END:
                    forget(peek(2));
                    height = Math.max(height - 3, 0);
                    break;
                default:
                    ending = ENDED;
                    break;
            }
        }

        private void step() {
            if (steps >= limit) {
                ending = OUT_OF_STEPS;
            } else {
                steps++;
            }
        }

        private void when(int constant, int chosen) {
            if (peek(0) == constant) {
                pop();
                next = chosen;
            }
        }

        private void call() {
            int hops = operand();
            int entry = operand();
            int arguments = operand();
            int size = operand();
            if (!enter(blockAround(hops), size)) {
                error(ROOM);
                return;
            }
            for (int i = arguments - 1; i >= 0; i--) {
                put(base + HEADER + i, pop());
            }
            next = entry;
        }

        /** The block that called is at fault for an undefined value, so its call is where the run ends. */
        private void returnValue() {
            if (!isDefined(base + RESULT)) {
                current = (int) cell(base + GOES_ON) - 1;
                error(UNDEFINED);
                return;
            }
            long value = cell(base + RESULT);
            leave();
            push(value);
        }

        /** A for keeps its variable's address, its count and its end on the stack, the end uppermost. */
        private void forValue(boolean goesOn, int behind) {
            if (goesOn) {
                long address = peek(2);
                long count = peek(1);
                push(address);
                push(count);
            } else {
                next = behind;
            }
        }

        /** The stack's longs hold what comes behind the greatest integer, so that no for wraps. */
        private void forNext(int difference, int again) {
            long end = pop();
            long count = pop();
            push(count + difference);
            push(end);
            next = again;
        }

        private void handle(int instruction) {
            switch (instruction) {
                case Code.LITERAL:
                    push(operand());
                    break;
                case Code.ADDRESS:
                    push(blockAround(operand()) + operand());
                    break;
                case Code.REFERENCE:
                    push(cell(blockAround(operand()) + operand()));
                    break;
                case Code.INDEX:
                    index(operand(), operand());
                    break;
                case Code.FETCH:
                    fetch(pop());
                    break;
                case Code.STORE:
                    long value = pop();
                    put(pop(), value);
                    break;
                case Code.CHECK:
                    checkRange(operand(), operand());
                    break;
                case Code.ADD_ELEMENT:
                    long element = pop();
                    addSpan(pop(), element, element);
                    break;
                default:
                    long last = pop();
                    long first = pop();
                    addSpan(pop(), first, last);
                    break;
            }
        }

        private void index(int low, int high) {
            checkRange(low, high);
            long index = pop();
            push(pop() + index - low);
        }

        private void checkRange(int low, int high) {
            if (peek(0) < low || peek(0) > high) {
                error(RANGE);
            }
        }

        private void fetch(long address) {
            if (isDefined(address)) {
                push(cell(address));
            } else {
                error(UNDEFINED);
            }
        }

        private void addSpan(long set, long first, long last) {
            if (first > last) {
                push(set);
            } else if (isElement(first) && isElement(last)) {
                push(set | (-1L >>> (GREATEST_ELEMENT - (last - first))) << first);
            } else {
                error(RANGE);
            }
        }

        private static boolean isElement(long number) {
            return number >= 0 && number <= GREATEST_ELEMENT;
        }

        private void transfer(int instruction) {
            switch (instruction) {
                case Code.READ_NUMBER:
                    readNumber();
                    break;
                case Code.READ_CHAR:
                    readChar();
                    break;
                case Code.AT_END:
                    pushTruth(nextByte() == NONE);
                    break;
                case Code.AT_LINE_END:
                    pushTruth(nextByte() == NONE || nextByte() == NEW_LINE);
                    break;
                case Code.WRITE_NUMBER:
                    writeNumber(pop());
                    break;
                case Code.WRITE_BOOLEAN:
                    writeWord(pop() == 0 ? "false" : "true");
                    break;
                case Code.WRITE_CHAR:
                    writeByte((int) pop());
                    break;
                case Code.WRITE_STRING:
                    writeString(operand());
                    break;
                default:
                    writeByte(NEW_LINE);
                    break;
            }
        }

        private int nextByte() {
            return entered.at(bytesRead);
        }

        private void readChar() {
            if (nextByte() == NONE) {
                error(READING);
            } else {
                push(nextByte());
                bytesRead++;
            }
        }

        private void readNumber() {
            while (bytesRead < entered.length() && nextByte() <= ' ') {
                bytesRead++;
            }
            boolean negative = nextByte() == '-';
            if (negative || nextByte() == '+') {
                bytesRead++;
            }
            int firstFigure = bytesRead;
            long number = 0;
            while (bytesRead < entered.length() && Words.isFigure(nextByte())) {
                number = Math.min(number * 10 + nextByte() - '0', TOO_GREAT);
                bytesRead++;
            }
            if (bytesRead == firstFigure || number > GREATEST_NUMBER) {
                error(READING);
            } else {
                push(negative ? -number : number);
            }
        }

        private void writeByte(int b) {
            if (!output.append(b)) {
                error(ROOM);
            }
        }

        private void writeWord(String word) {
            for (int i = 0; i < word.length(); i++) {
                writeByte(word.charAt(i));
            }
        }

        private void writeString(int bytes) {
            for (int i = 0; i < bytes; i++) {
                writeByte(operand());
            }
        }

        private void writeNumber(long number) {
            if (number < 0) {
                writeByte('-');
            }
            long rest = Math.abs(number);
            long power = 1;
            for (int i = 1; i < FIGURES && power * 10 <= rest; i++) {
                power *= 10;
            }
            for (int i = 0; i < FIGURES && power > 0; i++) {
                writeByte('0' + (int) (rest / power % 10));
                power /= 10;
            }
        }

        private void unary(int instruction, long value) {
            switch (instruction) {
                case Code.NEGATE:
                    push((int) -value);
                    break;
                case Code.NOT:
                    pushTruth(value == 0);
                    break;
                case Code.ABS:
                    push((int) Math.abs(value));
                    break;
                case Code.SQR:
                    push((int) (value * value));
                    break;
                default:
                    pushTruth((value & 1) != 0);
                    break;
            }
        }

        private void binary(int instruction, long left, long right) {
            switch (instruction) {
                case Code.ADD:
                    push((int) (left + right));
                    break;
                case Code.SUBTRACT:
                    push((int) (left - right));
                    break;
                case Code.MULTIPLY:
                    push((int) (left * right));
                    break;
                case Code.DIVIDE:
                case Code.REMAINDER:
                    divide(instruction == Code.DIVIDE, left, right);
                    break;
                case Code.UNION:
                    push(left | right);
                    break;
                case Code.WITHOUT:
                    push(left & ~right);
                    break;
                case Code.BOTH:
                    push(left & right);
                    break;
                case Code.IN:
                    pushTruth(isElement(left) && (right >>> left & 1) != 0);
                    break;
                default:
                    pushTruth(compare(instruction, left, right));
                    break;
            }
        }

        private void divide(boolean quotient, long left, long right) {
            if (right == 0) {
                error(DIVISION);
            } else {
                push((int) (quotient ? left / right : left % right));
            }
        }

        private static boolean compare(int instruction, long left, long right) {
            switch (instruction) {
                case Code.EQUAL:
                    return left == right;
                case Code.NOT_EQUAL:
                    return left != right;
                case Code.LESS:
                    return left < right;
                case Code.LESS_EQUAL:
                    return left <= right;
                case Code.GREATER:
                    return left > right;
                default:
                    return left >= right;
            }
        }
    }
}
