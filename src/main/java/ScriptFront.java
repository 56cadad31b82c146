/**
 * The front of a script language: texts become tokens and a tree, semicolons that were left out are
 * put in, what is wrong is told ahead of any run, and a tree is printed as a text that reads as the
 * same tree. ../shared/DOC.md says what is promised.
 */
public final class ScriptFront {
    public static final int NONE = -1;

    private static final int TAPE_LIMIT = 480;
    /** No text of the tape's length has a tree of more nodes: hardly more than one for a character. */
    private static final int NODE_LIMIT = 512;

    private final Tape tape;
    private final Flaw flaw;
    private final Draft draft;
    private final Parser parser;
    private final Judge judge;
    private final Printer printer;
    private Tree tree;
    /** A text with a fault must leave the tree before as it is, so each parse() fills this one. */
    private Tree spare;

    public ScriptFront() {
        tape = new Tape();
        flaw = new Flaw();
        draft = new Draft(flaw);
        parser = new Parser(new Scanner(tape, flaw), draft, flaw);
        tree = new Tree();
        spare = new Tree();
        judge = new Judge(tape, flaw, spare);
        printer = new Printer(tape, tree);
    }

    public boolean type(long word, int n) {
        if (n < 1 || n > 8 || tape.typed + n > TAPE_LIMIT) {
            return false;
        }
        for (int i = n - 1; i >= 0; i--) {
            if (!Tape.isTypable((int) (word >>> (8 * i)) & 255)) {
                return false;
            }
        }
        for (int i = n - 1; i >= 0; i--) {
            tape.put((int) (word >>> (8 * i)) & 255);
        }
        return true;
    }

    public int parse() throws IllegalArgumentException {
        tape.becomeText();
        flaw.clear();
        int whole = parser.read();
        flaw.semicolons = parser.semicolons;
        draft.orderInto(spare, whole);
        judge.look(spare);
        Tree before = tree;
        tree = spare;
        spare = before;
        printer.print(tree);
        return tree.size;
    }

    public int fault(int what) {
        switch (what) {
            case 0:
                return flaw.number;
            case 1:
                return flaw.place;
            case 2:
                return flaw.semicolons;
            default:
                return NONE;
        }
    }

    public int node(int k, int what) throws IndexOutOfBoundsException {
        if (k < 0 || k >= tree.size) {
            throw new IndexOutOfBoundsException("no such node");
        }
        switch (what) {
            case 0:
                return tree.kindOf(k);
            case 1:
                return tree.placeOf(k);
            case 2:
                return tree.lengthOf(k);
            case 3:
                return tree.childrenOf(k);
            case 4:
                return tree.parentOf(k);
            case 5:
                return tree.isStrict(k) ? 1 : 0;
            default:
                throw new IndexOutOfBoundsException("nothing of that number is told of a node");
        }
    }

    public int many(int kind) {
        int found = 0;
        for (int k = 0; k < tree.size; k++) {
            if (tree.kindOf(k) == kind) {
                found++;
            }
        }
        return found;
    }

    public int printed(int i) {
        return i == -1 ? printer.length : printer.at(i);
    }

    public boolean again() {
        if (tree.size == 0 || printer.length > TAPE_LIMIT) {
            return false;
        }
        tape.typed = 0;
        for (int i = 0; i < printer.length; i++) {
            tape.put(printer.at(i));
        }
        return true;
    }

    /** The kinds of nodes, by the document's numbers. */
    private static final class Kind {
        static final int WHOLE = 0;
        static final int BLOCK = 1;
        static final int VAR = 2;
        static final int DECLARATOR = 3;
        static final int EMPTY = 4;
        static final int EXPRESSION = 5;
        static final int IF = 6;
        static final int DO = 7;
        static final int WHILE = 8;
        static final int FOR = 9;
        static final int FOR_IN = 10;
        static final int CONTINUE = 11;
        static final int BREAK = 12;
        static final int RETURN = 13;
        static final int SWITCH = 14;
        static final int CASE = 15;
        static final int LABEL = 16;
        static final int THROW = 17;
        static final int TRY = 18;
        static final int CATCH = 19;
        static final int DECLARATION = 20;
        static final int NOTHING = 21;
        static final int PARAMETER = 22;
        static final int BODY = 23;
        static final int THIS = 30;
        static final int NAME = 31;
        static final int CONSTANT = 32;
        static final int NUMBER = 33;
        static final int STRING = 34;
        static final int PATTERN = 35;
        static final int ARRAY = 36;
        static final int OBJECT = 37;
        static final int PROPERTY = 38;
        static final int FUNCTION = 39;
        static final int INDEX = 40;
        static final int MEMBER = 41;
        static final int NEW = 42;
        static final int CALL = 43;
        static final int POSTFIX = 44;
        static final int PREFIX = 45;
        static final int BINARY = 46;
        static final int CHOICE = 47;
        static final int ASSIGNMENT = 48;
        static final int SEQUENCE = 49;
    }

    /**
     * What is known of tokens by themselves. The code of a word is its number in WORDS, that of a sign
     * its characters packed into an int; no two are the same, and other tokens have 0.
     */
    private static final class Token {
        static final int END = 0;
        static final int NAME = 1;
        static final int WORD = 2;
        static final int NUMBER = 3;
        static final int STRING = 4;
        static final int PATTERN = 5;
        static final int SIGN = 6;

        static final String WORDS = "break case catch continue default delete do else false finally for function if in instanceof new null return switch this throw true try typeof var void while ";
        static final int BREAK = 1;
        static final int CASE = 2;
        static final int CATCH = 3;
        static final int CONTINUE = 4;
        static final int DEFAULT = 5;
        static final int DELETE = 6;
        static final int DO = 7;
        static final int ELSE = 8;
        static final int FALSE = 9;
        static final int FINALLY = 10;
        static final int FOR = 11;
        static final int FUNCTION = 12;
        static final int IF = 13;
        static final int IN = 14;
        static final int INSTANCEOF = 15;
        static final int NEW = 16;
        static final int NULL = 17;
        static final int RETURN = 18;
        static final int SWITCH = 19;
        static final int THIS = 20;
        static final int THROW = 21;
        static final int TRUE = 22;
        static final int TRY = 23;
        static final int TYPEOF = 24;
        static final int VAR = 25;
        static final int VOID = 26;
        static final int WHILE = 27;

        static final int INCREMENT = '+' << 8 | '+';
        static final int DECREMENT = '-' << 8 | '-';
        static final int SHIFT_LEFT = '<' << 8 | '<';
        static final int SHIFT_RIGHT = '>' << 8 | '>';
        static final int SHIFT_ZEROS = '>' << 16 | '>' << 8 | '>';
        static final int AT_MOST = '<' << 8 | '=';
        static final int AT_LEAST = '>' << 8 | '=';
        static final int EQUAL = '=' << 8 | '=';
        static final int UNEQUAL = '!' << 8 | '=';
        static final int SAME = '=' << 16 | '=' << 8 | '=';
        static final int NOT_SAME = '!' << 16 | '=' << 8 | '=';
        static final int BOTH = '&' << 8 | '&';
        static final int EITHER = '|' << 8 | '|';
        static final int DIVIDE_ASSIGN = '/' << 8 | '=';

        /** Each sign without its last character is a sign too, so the longest one is found step by step. */
        private static final int[] SIGNS = {
            '{', '}', '(', ')', '[', ']', '.', ';', ',', '<', '>', AT_MOST, AT_LEAST, EQUAL, UNEQUAL, SAME, NOT_SAME,
            '+', '-', '*', '%', INCREMENT, DECREMENT, SHIFT_LEFT, SHIFT_RIGHT, SHIFT_ZEROS, '&', '|', '^', '!', '~',
            BOTH, EITHER, '?', ':', '=', '+' << 8 | '=', '-' << 8 | '=', '*' << 8 | '=', '%' << 8 | '=',
            SHIFT_LEFT << 8 | '=', SHIFT_RIGHT << 8 | '=', SHIFT_ZEROS << 8 | '=',
            '&' << 8 | '=', '|' << 8 | '=', '^' << 8 | '=', '/', DIVIDE_ASSIGN
        };

        static boolean isSign(int code) {
            for (int i = 0; i < SIGNS.length; i++) {
                if (SIGNS[i] == code) {
                    return true;
                }
            }
            return false;
        }

        static boolean isAssignment(int code) {
            if ((code & 255) != '=') {
                return false;
            }
            switch (code >> 8) {
                case 0:
                case '+':
                case '-':
                case '*':
                case '/':
                case '%':
                case '&':
                case '|':
                case '^':
                case SHIFT_LEFT:
                case SHIFT_RIGHT:
                case SHIFT_ZEROS:
                    return true;
                default:
                    return false;
            }
        }

        static boolean isPrefix(int code) {
            switch (code) {
                case DELETE:
                case VOID:
                case TYPEOF:
                case INCREMENT:
                case DECREMENT:
                case '+':
                case '-':
                case '~':
                case '!':
                    return true;
                default:
                    return false;
            }
        }

        /** From 10 (binds most) to 1; 0 for what is no sign between two operands. */
        static int strengthOf(int code) {
            switch (code) {
                case '*':
                case '/':
                case '%':
                    return 10;
                case '+':
                case '-':
                    return 9;
                case SHIFT_LEFT:
                case SHIFT_RIGHT:
                case SHIFT_ZEROS:
                    return 8;
                case '<':
                case '>':
                case AT_MOST:
                case AT_LEAST:
                case INSTANCEOF:
                case IN:
                    return 7;
                case EQUAL:
                case UNEQUAL:
                case SAME:
                case NOT_SAME:
                    return 6;
                case '&':
                    return 5;
                case '^':
                    return 4;
                case '|':
                    return 3;
                case BOTH:
                    return 2;
                case EITHER:
                    return 1;
                default:
                    return 0;
            }
        }
    }

    /** The tape; its characters stay as the text of the latest parse() until that call ends. */
    private static final class Tape {
        private final char[] chars = new char[TAPE_LIMIT];
        int typed;
        int length;

        void put(int c) {
            if (typed >= 0 && typed < TAPE_LIMIT) {
                chars[typed] = (char) c;
                typed++;
            }
        }

        void becomeText() {
            length = typed;
            typed = 0;
        }

        /** A character of the text, NONE behind its end. */
        int at(int place) {
            return place < 0 || place >= length || place >= TAPE_LIMIT ? NONE : chars[place];
        }

        boolean hasAt(int place, String part) {
            for (int i = 0; i < part.length(); i++) {
                if (at(place + i) != part.charAt(i)) {
                    return false;
                }
            }
            return true;
        }

        static boolean isTypable(int c) {
            return c >= ' ' && c <= 126 || c == 9 || isLineEnd(c);
        }

        static boolean isLineEnd(int c) {
            return c == 10 || c == 13;
        }

        static boolean isDigit(int c) {
            return c >= '0' && c <= '9';
        }

        static boolean isNameChar(int c) {
            boolean letter = c >= 'a' && c <= 'z' || c >= 'A' && c <= 'Z';
            return letter || c >= '0' && c <= '9' || c == '$' || c == '_';
        }
    }

    /** What the latest parse() found to be wrong, and how many semicolons it put in. */
    private static final class Flaw {
        static final int TOKEN = 1;
        static final int SYNTAX = 2;
        static final int DEEP = 3;
        static final int TARGET = 4;
        static final int STRICT = 5;
        static final int JUMP = 6;

        int number;
        int place = NONE;
        int semicolons;

        void clear() {
            number = 0;
            place = NONE;
            semicolons = 0;
        }

        void raise(int fault, int where) {
            number = fault;
            place = where;
            throw new IllegalArgumentException("the text has a fault");
        }
    }

    /** Holds the current token of the text. Which goal a / has is told by operandDue(). */
    private static final class Scanner {
        private final Tape tape;
        private final Flaw flaw;
        private boolean lineSeen;
        int kind;
        int code;
        int start;
        int end;
        /** Whether a line end lies between the token before and the current one. */
        boolean lineAhead;

        Scanner(Tape tape, Flaw flaw) {
            this.tape = tape;
            this.flaw = flaw;
        }

        void begin() {
            end = 0;
            next();
        }

        int length() {
            return end - start;
        }

        void next() {
            start = behindBlanks(end);
            lineAhead = lineSeen;
            code = 0;
            int first = tape.at(start);
            if (first == NONE) {
                kind = Token.END;
                end = start;
            } else if (Tape.isDigit(first) || first == '.' && Tape.isDigit(tape.at(start + 1))) {
                readNumber();
            } else if (Tape.isNameChar(first)) {
                readName();
            } else if (first == '\'' || first == '"') {
                readString(first);
            } else {
                readSign();
            }
        }

        /** The current token is where an operand may begin: a / or /= there is a pattern's begin. */
        void operandDue() {
            if (code == '/' || code == Token.DIVIDE_ASSIGN) {
                readPattern();
            }
        }

        boolean colonBehind() {
            return tape.at(behindBlanks(end)) == ':';
        }

        /** Stops ahead of a comment without an end, which readSign() then refuses. */
        private int behindBlanks(int from) {
            int place = from;
            lineSeen = false;
            for (int i = 0; i <= TAPE_LIMIT; i++) {
                int first = tape.at(place);
                if (Tape.isLineEnd(first)) {
                    lineSeen = true;
                    place++;
                } else if (first == ' ' || first == 9) {
                    place++;
                } else if (first == '/' && tape.at(place + 1) == '/') {
                    place = behindLine(place);
                } else if (first == '/' && tape.at(place + 1) == '*') {
                    int behind = behindComment(place);
                    if (behind == NONE) {
                        return place;
                    }
                    place = behind;
                } else {
                    return place;
                }
            }
            return place;
        }

        private int behindLine(int from) {
            for (int place = from; place < tape.length; place++) {
                if (Tape.isLineEnd(tape.at(place))) {
                    return place;
                }
            }
            return tape.length;
        }

        private int behindComment(int from) {
            boolean line = false;
            for (int place = from + 2; place < tape.length; place++) {
                int c = tape.at(place);
                if (c == '*' && tape.at(place + 1) == '/') {
                    lineSeen = lineSeen || line;
                    return place + 2;
                }
                line = line || Tape.isLineEnd(c);
            }
            return NONE;
        }

        private void readName() {
            end = start;
            for (int i = 0; i < TAPE_LIMIT && Tape.isNameChar(tape.at(end)); i++) {
                end++;
            }
            code = wordCode();
            kind = code == 0 ? Token.NAME : Token.WORD;
        }

        private int wordCode() {
            if (length() < 2 || length() > 10) {
                return 0;
            }
            int word = 1;
            int alike = 0;
            for (int i = 0; i < Token.WORDS.length(); i++) {
                char c = Token.WORDS.charAt(i);
                if (c != ' ') {
                    alike = alike != NONE && tape.at(start + alike) == c ? alike + 1 : NONE;
                } else if (alike == length()) {
                    return word;
                } else {
                    word++;
                    alike = 0;
                }
            }
            return 0;
        }

        private void readNumber() {
            boolean zero = tape.at(start) == '0';
            int second = tape.at(start + 1);
            refuseIf(zero && Tape.isDigit(second));
            if (zero && (second == 'x' || second == 'X')) {
                end = behindDigits(start + 2, true);
                refuseIf(end == start + 2);
            } else {
                end = behindDigits(start, false);
                if (tape.at(end) == '.') {
                    end = behindDigits(end + 1, false);
                }
                int exponent = exponentPlace(end);
                if (exponent != NONE) {
                    end = behindDigits(exponent, false);
                    refuseIf(end == exponent);
                }
            }
            refuseIf(Tape.isNameChar(tape.at(end)));
            kind = Token.NUMBER;
        }

        /** Where the digits of an exponent must begin, NONE if there is no e or E. */
        private int exponentPlace(int place) {
            int letter = tape.at(place);
            if (letter != 'e' && letter != 'E') {
                return NONE;
            }
            int sign = tape.at(place + 1);
            return sign == '+' || sign == '-' ? place + 2 : place + 1;
        }

        private int behindDigits(int from, boolean hexadecimal) {
            int place = from;
            for (int i = 0; i < TAPE_LIMIT; i++) {
                int c = tape.at(place);
                boolean letter = c >= 'a' && c <= 'f' || c >= 'A' && c <= 'F';
                if (!Tape.isDigit(c) && !(hexadecimal && letter)) {
                    break;
                }
                place++;
            }
            return place;
        }

        private void refuseIf(boolean wrong) {
            if (wrong) {
                flaw.raise(Flaw.TOKEN, start);
            }
        }

        private void readString(int quote) {
            int place = start + 1;
            for (int i = 0; i < TAPE_LIMIT && tape.at(place) != quote; i++) {
                int c = tape.at(place);
                refuseIf(c == NONE || Tape.isLineEnd(c));
                if (c == '\\') {
                    place++;
                    refuseIf(tape.at(place) == NONE);
                    place += tape.at(place) == 13 && tape.at(place + 1) == 10 ? 2 : 1;
                } else {
                    place++;
                }
            }
            end = place + 1;
            kind = Token.STRING;
        }

        private void readPattern() {
            int place = start + 1;
            boolean inClass = false;
            for (int i = 0; i < TAPE_LIMIT && (inClass || tape.at(place) != '/'); i++) {
                int c = tape.at(place);
                if (c == '\\') {
                    place++;
                } else if (c == '[' || c == ']') {
                    inClass = c == '[';
                }
                refuseIf(tape.at(place) == NONE || Tape.isLineEnd(tape.at(place)));
                place++;
            }
            end = behindFlags(place + 1);
            refuseIf(Tape.isNameChar(tape.at(end)));
            kind = Token.PATTERN;
            code = 0;
        }

        /** Stops ahead of a character that is no flag, or one that stood before. */
        private int behindFlags(int from) {
            boolean global = false;
            boolean anyCase = false;
            boolean manyLines = false;
            for (int place = from; place <= tape.length; place++) {
                int c = tape.at(place);
                if (c == 'g' && !global) {
                    global = true;
                } else if (c == 'i' && !anyCase) {
                    anyCase = true;
                } else if (c == 'm' && !manyLines) {
                    manyLines = true;
                } else {
                    return place;
                }
            }
            return tape.length;
        }

        private void readSign() {
            int packed = tape.at(start);
            boolean openComment = packed == '/' && tape.at(start + 1) == '*';
            refuseIf(openComment || !Token.isSign(packed));
            end = start + 1;
            for (int i = 0; i < 3 && tape.at(end) != NONE && Token.isSign(packed << 8 | tape.at(end)); i++) {
                packed = packed << 8 | tape.at(end);
                end++;
            }
            code = packed;
            kind = Token.SIGN;
        }
    }

    /** Nodes as the parser makes them: children are chained, as a left operand is read ahead of its sign. */
    private static final class Draft {
        private final Flaw flaw;
        private final int[] kind = new int[NODE_LIMIT];
        private final int[] place = new int[NODE_LIMIT];
        private final int[] length = new int[NODE_LIMIT];
        private final int[] sign = new int[NODE_LIMIT];
        private final int[] first = new int[NODE_LIMIT];
        private final int[] last = new int[NODE_LIMIT];
        private final int[] next = new int[NODE_LIMIT];
        private final int[] up = new int[NODE_LIMIT];
        /** Where the node went in the ordered tree. */
        private final int[] order = new int[NODE_LIMIT];
        private int count;

        Draft(Flaw flaw) {
            this.flaw = flaw;
        }

        void clear() {
            count = 0;
        }

        int make(int newKind, int newPlace, int newLength, int newSign) {
            if (count < 0 || count >= NODE_LIMIT) {
                flaw.raise(Flaw.DEEP, newPlace);
                return 0;
            }
            int made = count;
            kind[made] = newKind;
            place[made] = newPlace;
            length[made] = newLength;
            sign[made] = newSign;
            first[made] = NONE;
            last[made] = NONE;
            next[made] = NONE;
            up[made] = NONE;
            count++;
            return made;
        }

        private boolean has(int node) {
            return node >= 0 && node < count && node < NODE_LIMIT;
        }

        void add(int parent, int child) {
            if (!has(parent) || !has(child)) {
                return;
            }
            int before = last[parent];
            if (has(before)) {
                next[before] = child;
            } else {
                first[parent] = child;
            }
            last[parent] = child;
            up[child] = parent;
        }

        int kindOf(int node) {
            return has(node) ? kind[node] : NONE;
        }

        boolean hasOneChild(int parent) {
            return has(parent) && has(first[parent]) && first[parent] == last[parent];
        }

        /** A node goes ahead of its children, these in order. */
        void orderInto(Tree tree, int whole) {
            tree.clear();
            int node = whole;
            for (int i = 0; i < NODE_LIMIT && has(node); i++) {
                int parent = has(up[node]) ? order[up[node]] : NONE;
                order[node] = tree.put(kind[node], place[node], length[node], sign[node], parent);
                node = has(first[node]) ? first[node] : behind(node);
            }
        }

        /** The next node that is no part of this one. */
        private int behind(int node) {
            int inner = node;
            for (int i = 0; i < NODE_LIMIT && has(inner) && !has(next[inner]); i++) {
                inner = up[inner];
            }
            return has(inner) ? next[inner] : NONE;
        }
    }

    /** Nodes in the order of the tree: the parent of each stands ahead of it. */
    private static final class Tree {
        private final int[] kind = new int[NODE_LIMIT];
        private final int[] place = new int[NODE_LIMIT];
        private final int[] length = new int[NODE_LIMIT];
        private final int[] sign = new int[NODE_LIMIT];
        private final int[] parent = new int[NODE_LIMIT];
        private final int[] rank = new int[NODE_LIMIT];
        private final int[] children = new int[NODE_LIMIT];
        private final boolean[] strict = new boolean[NODE_LIMIT];
        int size;

        void clear() {
            size = 0;
        }

        private boolean has(int k) {
            return k >= 0 && k < size && k < NODE_LIMIT;
        }

        int put(int newKind, int newPlace, int newLength, int newSign, int newParent) {
            if (size < 0 || size >= NODE_LIMIT) {
                return NONE;
            }
            int made = size;
            kind[made] = newKind;
            place[made] = newPlace;
            length[made] = newLength;
            sign[made] = newSign;
            parent[made] = newParent;
            rank[made] = 0;
            children[made] = 0;
            strict[made] = false;
            if (has(newParent)) {
                rank[made] = children[newParent];
                children[newParent]++;
            }
            size++;
            return made;
        }

        int kindOf(int k) {
            return has(k) ? kind[k] : NONE;
        }

        int placeOf(int k) {
            return has(k) ? place[k] : NONE;
        }

        int lengthOf(int k) {
            return has(k) ? length[k] : 0;
        }

        int signOf(int k) {
            return has(k) ? sign[k] : 0;
        }

        int parentOf(int k) {
            return has(k) ? parent[k] : NONE;
        }

        /** How many brothers stand ahead of a node. */
        int rankOf(int k) {
            return has(k) ? rank[k] : 0;
        }

        int childrenOf(int k) {
            return has(k) ? children[k] : 0;
        }

        boolean isStrict(int k) {
            return has(k) && strict[k];
        }

        void setStrict(int k, boolean value) {
            if (has(k)) {
                strict[k] = value;
            }
        }
    }

    /**
     * Reads the text by recursive descent. The argument around is how many statements, x, operands of
     * signs ahead or of new, and bodies the thing to be read is in; 20 of them are refused.
     */
    private static final class Parser {
        private static final int DEPTH_LIMIT = 20;
        /** Ten strengths can wait at once on each of the levels of depth. */
        private static final int WAITING_LIMIT = 256;

        private final Scanner scanner;
        private final Draft draft;
        private final Flaw flaw;
        /** Nodes with a sign between operands whose right operand may still grow, the weakest first. */
        private final int[] waiting = new int[WAITING_LIMIT];
        private final int[] waitingStrength = new int[WAITING_LIMIT];
        private int waitingCount;
        /** Whether the expression that was read last is a LEFT and nothing more. */
        private boolean bare;
        int semicolons;

        Parser(Scanner scanner, Draft draft, Flaw flaw) {
            this.scanner = scanner;
            this.draft = draft;
            this.flaw = flaw;
        }

        /** The node of the whole text. */
        int read() {
            semicolons = 0;
            waitingCount = 0;
            draft.clear();
            scanner.begin();
            int whole = draft.make(Kind.WHOLE, 0, 0, 0);
            for (int i = 0; i <= TAPE_LIMIT && scanner.kind != Token.END; i++) {
                draft.add(whole, element(0));
            }
            return whole;
        }

        private void refuse() {
            flaw.raise(Flaw.SYNTAX, scanner.start);
        }

        /**
         * A wrong token goes ahead of depth, and depth ahead of a token that can't stand here. Nothing
         * begins where the text ends, so it ends too early there, however deep.
         */
        private void beginWithin(int around) {
            scanner.operandDue();
            if (scanner.kind == Token.END) {
                refuse();
            }
            if (around >= DEPTH_LIMIT) {
                flaw.raise(Flaw.DEEP, scanner.start);
            }
        }

        private void demand(int code) {
            if (scanner.code != code) {
                refuse();
            }
        }

        private void pass(int code) {
            demand(code);
            scanner.next();
        }

        private boolean listGoesOn() {
            return scanner.code != '}' && scanner.kind != Token.END;
        }

        /** A node at the current token, without a LENGTH. */
        private int makeHere(int kind) {
            return draft.make(kind, scanner.start, 0, 0);
        }

        /** A node whose first token is the current one, which is passed. */
        private int makeFirst(int kind) {
            int node = draft.make(kind, scanner.start, 0, 0);
            scanner.next();
            return node;
        }

        /** A node whose own token is the current one, which is passed. */
        private int makeOf(int kind) {
            int node = draft.make(kind, scanner.start, scanner.length(), scanner.code);
            scanner.next();
            return node;
        }

        private void demandName() {
            if (scanner.kind != Token.NAME) {
                refuse();
            }
        }

        private int nothing() {
            return draft.make(Kind.NOTHING, 0, 0, 0);
        }

        /** What may stand directly in the text or in a body. */
        private int element(int around) {
            if (scanner.code != Token.FUNCTION) {
                return statement(around);
            }
            beginWithin(around);
            return function(Kind.DECLARATION, around + 1);
        }

        private int statement(int around) {
            beginWithin(around);
            int node = unended(around + 1);
            if (needsSemicolon(draft.kindOf(node))) {
                endStatement();
            }
            return node;
        }

        private static boolean needsSemicolon(int kind) {
            switch (kind) {
                case Kind.VAR:
                case Kind.EXPRESSION:
                case Kind.DO:
                case Kind.CONTINUE:
                case Kind.BREAK:
                case Kind.RETURN:
                case Kind.THROW:
                    return true;
                default:
                    return false;
            }
        }

        private void endStatement() {
            if (scanner.code == ';') {
                scanner.next();
            } else if (scanner.lineAhead || scanner.code == '}' || scanner.kind == Token.END) {
                semicolons++;
            } else {
                refuse();
            }
        }

        /** A statement up to the semicolon that some of them need. */
        private int unended(int around) {
            switch (scanner.code) {
                case '{':
                    return block(around);
                case ';':
                    return makeFirst(Kind.EMPTY);
                case Token.VAR:
                    return declarators(around, false);
                case Token.IF:
                    return ifStatement(around);
                case Token.DO:
                    return doStatement(around);
                case Token.WHILE:
                    return whileStatement(around);
                case Token.FOR:
                    return forStatement(around);
                case Token.CONTINUE:
                    return jump(Kind.CONTINUE);
                case Token.BREAK:
                    return jump(Kind.BREAK);
                case Token.RETURN:
                    return returnStatement(around);
                case Token.SWITCH:
                    return switchStatement(around);
                case Token.THROW:
                    return throwStatement(around);
                case Token.TRY:
                    return tryStatement(around);
                case Token.FUNCTION:
                    refuse();
                    return NONE;
                default:
                    return nameOrExpression(around);
            }
        }

        private int nameOrExpression(int around) {
            if (scanner.kind == Token.NAME && scanner.colonBehind()) {
                int label = makeOf(Kind.LABEL);
                pass(':');
                draft.add(label, statement(around));
                return label;
            }
            int node = makeHere(Kind.EXPRESSION);
            draft.add(node, sequence(around, false));
            return node;
        }

        private int block(int around) {
            demand('{');
            int node = makeFirst(Kind.BLOCK);
            for (int i = 0; i <= TAPE_LIMIT && listGoesOn(); i++) {
                draft.add(node, statement(around));
            }
            pass('}');
            return node;
        }

        private int declarators(int around, boolean noIn) {
            int node = makeFirst(Kind.VAR);
            draft.add(node, declarator(around, noIn));
            for (int i = 0; i <= TAPE_LIMIT && scanner.code == ','; i++) {
                scanner.next();
                draft.add(node, declarator(around, noIn));
            }
            return node;
        }

        private int declarator(int around, boolean noIn) {
            demandName();
            int node = makeOf(Kind.DECLARATOR);
            if (scanner.code == '=') {
                scanner.next();
                draft.add(node, x(around, noIn));
            }
            return node;
        }

        /** Adds the X between ( and ). */
        private void condition(int node, int around) {
            pass('(');
            draft.add(node, sequence(around, false));
            pass(')');
        }

        private int ifStatement(int around) {
            int node = makeFirst(Kind.IF);
            condition(node, around);
            draft.add(node, statement(around));
            if (scanner.code == Token.ELSE) {
                scanner.next();
                draft.add(node, statement(around));
            }
            return node;
        }

        private int doStatement(int around) {
            int node = makeFirst(Kind.DO);
            draft.add(node, statement(around));
            pass(Token.WHILE);
            condition(node, around);
            return node;
        }

        private int whileStatement(int around) {
            int node = makeFirst(Kind.WHILE);
            condition(node, around);
            draft.add(node, statement(around));
            return node;
        }

        private int forStatement(int around) {
            int place = scanner.start;
            scanner.next();
            pass('(');
            if (scanner.code == ';') {
                return forParts(place, nothing(), around);
            }
            boolean declares = scanner.code == Token.VAR;
            int first = declares ? declarators(around, true) : sequence(around, true);
            if (scanner.code != Token.IN) {
                return forParts(place, first, around);
            }
            if (declares ? !draft.hasOneChild(first) : !bare) {
                refuse();
            }
            return forIn(place, first, around);
        }

        private int forParts(int place, int first, int around) {
            int node = draft.make(Kind.FOR, place, 0, 0);
            draft.add(node, first);
            pass(';');
            draft.add(node, scanner.code == ';' ? nothing() : sequence(around, false));
            pass(';');
            draft.add(node, scanner.code == ')' ? nothing() : sequence(around, false));
            pass(')');
            draft.add(node, statement(around));
            return node;
        }

        private int forIn(int place, int first, int around) {
            int node = draft.make(Kind.FOR_IN, place, 0, 0);
            draft.add(node, first);
            scanner.next();
            draft.add(node, sequence(around, false));
            pass(')');
            draft.add(node, statement(around));
            return node;
        }

        private int jump(int kind) {
            int place = scanner.start;
            scanner.next();
            if (scanner.kind != Token.NAME || scanner.lineAhead) {
                return draft.make(kind, place, 0, 0);
            }
            int node = draft.make(kind, scanner.start, scanner.length(), 0);
            scanner.next();
            return node;
        }

        private int returnStatement(int around) {
            int node = makeFirst(Kind.RETURN);
            if (!scanner.lineAhead && scanner.code != ';' && listGoesOn()) {
                draft.add(node, sequence(around, false));
            }
            return node;
        }

        private int throwStatement(int around) {
            int node = makeFirst(Kind.THROW);
            beginWithin(around);
            if (scanner.lineAhead) {
                refuse();
            }
            draft.add(node, sequence(around, false));
            return node;
        }

        private int switchStatement(int around) {
            int node = makeFirst(Kind.SWITCH);
            condition(node, around);
            pass('{');
            for (int i = 0; i <= TAPE_LIMIT && listGoesOn(); i++) {
                draft.add(node, switchCase(around));
            }
            pass('}');
            return node;
        }

        private int switchCase(int around) {
            int node = makeHere(Kind.CASE);
            if (scanner.code == Token.DEFAULT) {
                scanner.next();
                draft.add(node, nothing());
            } else {
                pass(Token.CASE);
                draft.add(node, sequence(around, false));
            }
            pass(':');
            for (int i = 0; i <= TAPE_LIMIT && listGoesOn(); i++) {
                if (scanner.code == Token.CASE || scanner.code == Token.DEFAULT) {
                    break;
                }
                draft.add(node, statement(around));
            }
            return node;
        }

        private int tryStatement(int around) {
            int node = makeFirst(Kind.TRY);
            draft.add(node, block(around));
            boolean catches = scanner.code == Token.CATCH;
            draft.add(node, catches ? catchPart(around) : nothing());
            if (scanner.code == Token.FINALLY) {
                scanner.next();
                draft.add(node, block(around));
            } else if (catches) {
                draft.add(node, nothing());
            } else {
                refuse();
            }
            return node;
        }

        private int catchPart(int around) {
            scanner.next();
            pass('(');
            demandName();
            int node = makeOf(Kind.CATCH);
            pass(')');
            draft.add(node, block(around));
            return node;
        }

        private int function(int kind, int around) {
            int place = scanner.start;
            scanner.next();
            if (kind == Kind.DECLARATION) {
                demandName();
            }
            int node = scanner.kind == Token.NAME ? makeOf(kind) : draft.make(kind, place, 0, 0);
            pass('(');
            for (int i = 0; i <= TAPE_LIMIT && scanner.code != ')'; i++) {
                if (i > 0) {
                    pass(',');
                }
                demandName();
                draft.add(node, makeOf(Kind.PARAMETER));
            }
            pass(')');
            draft.add(node, body(around));
            return node;
        }

        private int body(int around) {
            demand('{');
            beginWithin(around);
            int node = makeFirst(Kind.BODY);
            for (int i = 0; i <= TAPE_LIMIT && listGoesOn(); i++) {
                draft.add(node, element(around + 1));
            }
            pass('}');
            return node;
        }

        /** X of the document. */
        private int sequence(int around, boolean noIn) {
            int first = x(around, noIn);
            if (scanner.code != ',') {
                return first;
            }
            int node = makeHere(Kind.SEQUENCE);
            draft.add(node, first);
            for (int i = 0; i <= TAPE_LIMIT && scanner.code == ','; i++) {
                scanner.next();
                draft.add(node, x(around, noIn));
            }
            bare = false;
            return node;
        }

        private int x(int around, boolean noIn) {
            beginWithin(around);
            int target = choice(around + 1, noIn);
            if (!Token.isAssignment(scanner.code)) {
                return target;
            }
            if (!bare) {
                refuse();
            }
            int node = makeOf(Kind.ASSIGNMENT);
            draft.add(node, target);
            draft.add(node, x(around + 1, noIn));
            bare = false;
            return node;
        }

        private int choice(int around, boolean noIn) {
            int first = binary(around, noIn);
            if (scanner.code != '?') {
                return first;
            }
            int node = makeHere(Kind.CHOICE);
            draft.add(node, first);
            scanner.next();
            draft.add(node, x(around, noIn));
            pass(':');
            draft.add(node, x(around, noIn));
            bare = false;
            return node;
        }

        private int binary(int around, boolean noIn) {
            int floor = waitingCount;
            int node = unary(around);
            for (int i = 0; i <= TAPE_LIMIT; i++) {
                int strength = noIn && scanner.code == Token.IN ? 0 : Token.strengthOf(scanner.code);
                node = closeWaiting(node, strength, floor);
                if (strength == 0) {
                    break;
                }
                int sign = makeOf(Kind.BINARY);
                draft.add(sign, node);
                hold(sign, strength);
                node = unary(around);
                bare = false;
            }
            return node;
        }

        private void hold(int sign, int strength) {
            if (waitingCount < 0 || waitingCount >= WAITING_LIMIT) {
                flaw.raise(Flaw.DEEP, scanner.start);
                return;
            }
            waiting[waitingCount] = sign;
            waitingStrength[waitingCount] = strength;
            waitingCount++;
        }

        /** Signs that bind as much as the one that comes, or more, are complete with this right operand. */
        private int closeWaiting(int right, int strength, int floor) {
            int node = right;
            for (int i = waitingCount - 1; i >= floor && i >= 0 && i < WAITING_LIMIT; i--) {
                if (waitingStrength[i] < strength) {
                    break;
                }
                draft.add(waiting[i], node);
                node = waiting[i];
                waitingCount = i;
            }
            return node;
        }

        private int unary(int around) {
            scanner.operandDue();
            if (Token.isPrefix(scanner.code)) {
                int node = makeOf(Kind.PREFIX);
                beginWithin(around);
                draft.add(node, unary(around + 1));
                bare = false;
                return node;
            }
            int target = left(around);
            boolean steps = scanner.code == Token.INCREMENT || scanner.code == Token.DECREMENT;
            if (!steps || scanner.lineAhead) {
                return target;
            }
            int node = makeOf(Kind.POSTFIX);
            draft.add(node, target);
            bare = false;
            return node;
        }

        private int left(int around) {
            int node = head(around);
            for (int i = 0; i <= TAPE_LIMIT; i++) {
                if (scanner.code == '(') {
                    node = call(node, around);
                } else if (scanner.code == '.' || scanner.code == '[') {
                    node = access(node, around);
                } else {
                    break;
                }
            }
            bare = true;
            return node;
        }

        /** The MEMBER behind new. */
        private int member(int around) {
            int node = head(around);
            for (int i = 0; i <= TAPE_LIMIT && (scanner.code == '.' || scanner.code == '['); i++) {
                node = access(node, around);
            }
            return node;
        }

        private int head(int around) {
            return scanner.code == Token.NEW ? creation(around) : operand(around);
        }

        private int creation(int around) {
            int node = makeFirst(Kind.NEW);
            beginWithin(around);
            draft.add(node, member(around + 1));
            if (scanner.code == '(') {
                arguments(node, around);
            }
            return node;
        }

        private int access(int object, int around) {
            if (scanner.code == '.') {
                scanner.next();
                if (scanner.kind != Token.NAME && scanner.kind != Token.WORD) {
                    refuse();
                }
                int named = makeOf(Kind.MEMBER);
                draft.add(named, object);
                return named;
            }
            int node = makeHere(Kind.INDEX);
            draft.add(node, object);
            pass('[');
            draft.add(node, sequence(around, false));
            pass(']');
            return node;
        }

        private int call(int callee, int around) {
            int node = makeHere(Kind.CALL);
            draft.add(node, callee);
            arguments(node, around);
            return node;
        }

        private void arguments(int node, int around) {
            pass('(');
            for (int i = 0; i <= TAPE_LIMIT && scanner.code != ')'; i++) {
                if (i > 0) {
                    pass(',');
                }
                draft.add(node, x(around, false));
            }
            pass(')');
        }

        private int operand(int around) {
            switch (scanner.kind) {
                case Token.NAME:
                    return makeOf(Kind.NAME);
                case Token.NUMBER:
                    return makeOf(Kind.NUMBER);
                case Token.STRING:
                    return makeOf(Kind.STRING);
                case Token.PATTERN:
                    return makeOf(Kind.PATTERN);
                default:
                    return codedOperand(around);
            }
        }

        private int codedOperand(int around) {
            switch (scanner.code) {
                case Token.THIS:
                    return makeFirst(Kind.THIS);
                case Token.NULL:
                case Token.TRUE:
                case Token.FALSE:
                    return makeOf(Kind.CONSTANT);
                case Token.FUNCTION:
                    return function(Kind.FUNCTION, around);
                case '[':
                    return array(around);
                case '{':
                    return object(around);
                case '(':
                    scanner.next();
                    int inner = sequence(around, false);
                    pass(')');
                    return inner;
                default:
                    refuse();
                    return NONE;
            }
        }

        private int array(int around) {
            int node = makeFirst(Kind.ARRAY);
            for (int i = 0; i <= TAPE_LIMIT && scanner.code != ']'; i++) {
                if (scanner.code == ',') {
                    draft.add(node, nothing());
                } else {
                    draft.add(node, x(around, false));
                }
                if (scanner.code != ']') {
                    pass(',');
                }
            }
            pass(']');
            return node;
        }

        private int object(int around) {
            int node = makeFirst(Kind.OBJECT);
            for (int i = 0; i <= TAPE_LIMIT && scanner.code != '}'; i++) {
                draft.add(node, property(around));
                if (scanner.code != '}') {
                    pass(',');
                }
            }
            pass('}');
            return node;
        }

        private int property(int around) {
            boolean plain = scanner.kind == Token.NAME || scanner.kind == Token.WORD;
            if (!plain && scanner.kind != Token.STRING && scanner.kind != Token.NUMBER) {
                refuse();
            }
            int node = makeOf(Kind.PROPERTY);
            pass(':');
            draft.add(node, x(around, false));
            return node;
        }
    }

    /** Finds what is wrong in a tree though its syntax is right, and which of its code is strict. */
    private static final class Judge {
        private final Tape tape;
        private final Flaw flaw;
        private Tree tree;

        Judge(Tape tape, Flaw flaw, Tree tree) {
            this.tape = tape;
            this.flaw = flaw;
            this.tree = tree;
        }

        void look(Tree looked) {
            tree = looked;
            for (int k = 0; k < tree.size; k++) {
                tree.setStrict(k, strictness(k));
            }
            for (int k = 0; k < tree.size; k++) {
                refuseIf(isWrongTarget(k), Flaw.TARGET, k);
                refuseIf(isWrongInStrictCode(k), Flaw.STRICT, k);
                refuseIf(isWrongJump(k), Flaw.JUMP, k);
            }
        }

        private void refuseIf(boolean wrong, int fault, int k) {
            if (wrong) {
                flaw.raise(fault, tree.placeOf(k));
            }
        }

        /** Parameters go with the body, which stands behind them: each of them is one node. */
        private boolean strictness(int k) {
            int parent = tree.parentOf(k);
            switch (tree.kindOf(k)) {
                case Kind.WHOLE:
                    return hasDirective(k);
                case Kind.PARAMETER:
                case Kind.BODY:
                    return tree.isStrict(parent) || hasDirective(parent + tree.childrenOf(parent));
                default:
                    return tree.isStrict(parent);
            }
        }

        /** Statements of a STRING alone have two nodes each, so they are found in steps of two. */
        private boolean hasDirective(int code) {
            for (int k = code + 1; k < tree.size && isLoneString(k) && tree.parentOf(k) == code; k += 2) {
                int place = tree.placeOf(k);
                if (tree.lengthOf(k + 1) == 12 && tape.hasAt(place + 1, "use strict")) {
                    return true;
                }
            }
            return false;
        }

        private boolean isLoneString(int k) {
            return tree.kindOf(k) == Kind.EXPRESSION && tree.kindOf(k + 1) == Kind.STRING
                && tree.placeOf(k) == tree.placeOf(k + 1);
        }

        private boolean hasTarget(int k) {
            switch (tree.kindOf(k)) {
                case Kind.POSTFIX:
                case Kind.ASSIGNMENT:
                    return true;
                case Kind.PREFIX:
                    return tree.signOf(k) == Token.INCREMENT || tree.signOf(k) == Token.DECREMENT;
                case Kind.FOR_IN:
                    return tree.kindOf(k + 1) != Kind.VAR;
                default:
                    return false;
            }
        }

        private boolean isWrongTarget(int k) {
            int kind = tree.kindOf(k + 1);
            return hasTarget(k) && kind != Kind.NAME && kind != Kind.INDEX && kind != Kind.MEMBER;
        }

        private boolean isWrongInStrictCode(int k) {
            switch (tree.kindOf(k)) {
                case Kind.DECLARATION:
                case Kind.FUNCTION:
                    return tree.isStrict(k + 1) && isGuarded(k);
                case Kind.DECLARATOR:
                case Kind.CATCH:
                    return tree.isStrict(k) && isGuarded(k);
                case Kind.PARAMETER:
                    return tree.isStrict(k) && (isGuarded(k) || isRepeated(k));
                case Kind.PROPERTY:
                    return tree.isStrict(k) && isRepeated(k);
                default:
                    return tree.isStrict(k) && (isGuardedTarget(k) || isDeletedName(k));
            }
        }

        private boolean isGuardedTarget(int k) {
            return hasTarget(k) && tree.kindOf(k + 1) == Kind.NAME && isGuarded(k + 1);
        }

        private boolean isDeletedName(int k) {
            return tree.kindOf(k) == Kind.PREFIX && tree.signOf(k) == Token.DELETE
                && tree.kindOf(k + 1) == Kind.NAME;
        }

        private boolean isGuarded(int k) {
            int length = tree.lengthOf(k);
            int place = tree.placeOf(k);
            return length == 4 && tape.hasAt(place, "eval") || length == 9 && tape.hasAt(place, "arguments");
        }

        private boolean isRepeated(int k) {
            int parent = tree.parentOf(k);
            for (int j = parent + 1; j < k; j++) {
                boolean brother = tree.parentOf(j) == parent && tree.kindOf(j) == tree.kindOf(k);
                if (brother && areAlike(j, k)) {
                    return true;
                }
            }
            return false;
        }

        private boolean areAlike(int j, int k) {
            int length = tree.lengthOf(j);
            if (length != tree.lengthOf(k)) {
                return false;
            }
            for (int i = 0; i < length; i++) {
                if (tape.at(tree.placeOf(j) + i) != tape.at(tree.placeOf(k) + i)) {
                    return false;
                }
            }
            return true;
        }

        private boolean isWrongJump(int k) {
            switch (tree.kindOf(k)) {
                case Kind.CASE:
                    return isSecondDefault(k);
                case Kind.RETURN:
                    return !isInFunction(k);
                case Kind.LABEL:
                    return labelAround(k) != NONE;
                case Kind.BREAK:
                    return tree.lengthOf(k) == 0 ? !isInLoop(k, true) : labelAround(k) == NONE;
                case Kind.CONTINUE:
                    return tree.lengthOf(k) == 0 ? !isInLoop(k, false) : !isLoopLabel(labelAround(k));
                default:
                    return false;
            }
        }

        private boolean isSecondDefault(int k) {
            int parent = tree.parentOf(k);
            for (int j = parent + 1; j < k && tree.kindOf(k + 1) == Kind.NOTHING; j++) {
                boolean brother = tree.parentOf(j) == parent && tree.kindOf(j) == Kind.CASE;
                if (brother && tree.kindOf(j + 1) == Kind.NOTHING) {
                    return true;
                }
            }
            return false;
        }

        private boolean isInFunction(int k) {
            int outer = tree.parentOf(k);
            for (int i = 0; i < NODE_LIMIT && outer != NONE; i++) {
                if (tree.kindOf(outer) == Kind.BODY) {
                    return true;
                }
                outer = tree.parentOf(outer);
            }
            return false;
        }

        private static boolean isLoop(int kind) {
            return kind >= Kind.DO && kind <= Kind.FOR_IN;
        }

        private boolean isInLoop(int k, boolean orSwitch) {
            int outer = tree.parentOf(k);
            for (int i = 0; i < NODE_LIMIT && outer != NONE && tree.kindOf(outer) != Kind.BODY; i++) {
                if (isLoop(tree.kindOf(outer)) || orSwitch && tree.kindOf(outer) == Kind.SWITCH) {
                    return true;
                }
                outer = tree.parentOf(outer);
            }
            return false;
        }

        /** The label around a node, in the same function, that has the node's NAME. */
        private int labelAround(int k) {
            int outer = tree.parentOf(k);
            for (int i = 0; i < NODE_LIMIT && outer != NONE && tree.kindOf(outer) != Kind.BODY; i++) {
                if (tree.kindOf(outer) == Kind.LABEL && areAlike(outer, k)) {
                    return outer;
                }
                outer = tree.parentOf(outer);
            }
            return NONE;
        }

        private boolean isLoopLabel(int label) {
            int k = label;
            for (int i = 0; i < NODE_LIMIT && tree.kindOf(k) == Kind.LABEL; i++) {
                k++;
            }
            return label != NONE && isLoop(tree.kindOf(k));
        }
    }

    /** Prints a tree by one walk in its order: what stands ahead of a node, its begin, and its end. */
    private static final class Printer {
        /** No text of the tape's length is printed in more than half as much again. */
        private static final int PRINT_LIMIT = 1024;
        private static final int OPERAND = 15;

        private final Tape tape;
        private final char[] chars = new char[PRINT_LIMIT];
        private final boolean[] brackets = new boolean[NODE_LIMIT];
        /** Whether a node is in the first part of a for, outside all brackets. */
        private final boolean[] heading = new boolean[NODE_LIMIT];
        private Tree tree;
        /** Whether the last token is a NUMBER or a PATTERN: a name may not follow it directly. */
        private boolean loose;
        int length;

        Printer(Tape tape, Tree tree) {
            this.tape = tape;
            this.tree = tree;
        }

        int at(int i) {
            return i < 0 || i >= length || i >= PRINT_LIMIT ? NONE : chars[i];
        }

        void print(Tree printedTree) {
            tree = printedTree;
            length = 0;
            loose = false;
            for (int k = 0; k < tree.size && k < NODE_LIMIT; k++) {
                heading[k] = isHeading(k);
                brackets[k] = bindsLess(k) || isMisread(k);
            }
            for (int k = 0; k < tree.size && k < NODE_LIMIT; k++) {
                if (tree.kindOf(k) == Kind.EXPRESSION && k + 1 < NODE_LIMIT) {
                    brackets[k + 1] = brackets[k + 1] || beginsLikeAnother(k + 1) || hadBrackets(k + 1);
                }
            }
            for (int k = 0; k < tree.size; k++) {
                closeUpTo(tree.parentOf(k), k - 1);
                putAhead(k);
                open(k);
            }
            closeUpTo(NONE, tree.size - 1);
        }

        private boolean hasBrackets(int k) {
            return k >= 0 && k < NODE_LIMIT && brackets[k];
        }

        private boolean isHeading(int k) {
            int parent = tree.parentOf(k);
            int kind = tree.kindOf(parent);
            boolean isFirst = tree.rankOf(k) == 0;
            if (kind == Kind.FOR || kind == Kind.FOR_IN) {
                return isFirst;
            }
            if (parent < 0 || parent >= NODE_LIMIT || !heading[parent] || brackets[parent]) {
                return false;
            }
            switch (kind) {
                case Kind.ARRAY:
                case Kind.OBJECT:
                case Kind.FUNCTION:
                    return false;
                case Kind.INDEX:
                case Kind.NEW:
                case Kind.CALL:
                    return isFirst;
                default:
                    return true;
            }
        }

        /** How much a node holds together: the less, the sooner it needs brackets. */
        private int levelOf(int k) {
            switch (tree.kindOf(k)) {
                case Kind.SEQUENCE:
                    return 0;
                case Kind.ASSIGNMENT:
                    return 1;
                case Kind.CHOICE:
                    return 2;
                case Kind.BINARY:
                    return 2 + Token.strengthOf(tree.signOf(k));
                case Kind.PREFIX:
                    return 13;
                case Kind.POSTFIX:
                    return 14;
                default:
                    return OPERAND;
            }
        }

        private boolean bindsLess(int k) {
            int parent = tree.parentOf(k);
            boolean isFirst = tree.rankOf(k) == 0;
            int level = levelOf(k);
            switch (tree.kindOf(parent)) {
                case Kind.DECLARATOR:
                case Kind.ARRAY:
                case Kind.PROPERTY:
                case Kind.SEQUENCE:
                    return level < 1;
                case Kind.MEMBER:
                case Kind.POSTFIX:
                    return level < OPERAND;
                case Kind.INDEX:
                    return isFirst && level < OPERAND;
                case Kind.NEW:
                case Kind.CALL:
                case Kind.ASSIGNMENT:
                    return level < (isFirst ? OPERAND : 1);
                case Kind.PREFIX:
                    return level < levelOf(parent);
                case Kind.BINARY:
                    return isFirst ? level < levelOf(parent) : level <= levelOf(parent);
                case Kind.CHOICE:
                    return level < (isFirst ? 3 : 1);
                default:
                    return false;
            }
        }

        private boolean isMisread(int k) {
            int outer = tree.kindOf(tree.parentOf(k));
            if (outer == Kind.MEMBER && tree.kindOf(k) == Kind.NUMBER) {
                return true;
            }
            if (outer == Kind.NEW && tree.rankOf(k) == 0 && hasCall(k)) {
                return true;
            }
            return k >= 0 && k < NODE_LIMIT && heading[k] && tree.signOf(k) == Token.IN
                && tree.kindOf(k) == Kind.BINARY;
        }

        /** Whether the call would take the ( ) of new. */
        private boolean hasCall(int member) {
            for (int k = member; k < tree.size; k++) {
                int kind = tree.kindOf(k);
                if (kind != Kind.INDEX && kind != Kind.MEMBER) {
                    return kind == Kind.CALL;
                }
            }
            return false;
        }

        /** Whether an X would be read as a block or as a declaration. */
        private boolean beginsLikeAnother(int x) {
            for (int k = x; k < tree.size && !hasBrackets(k); k++) {
                switch (tree.kindOf(k)) {
                    case Kind.OBJECT:
                    case Kind.FUNCTION:
                        return true;
                    case Kind.INDEX:
                    case Kind.MEMBER:
                    case Kind.CALL:
                    case Kind.POSTFIX:
                    case Kind.BINARY:
                    case Kind.CHOICE:
                    case Kind.ASSIGNMENT:
                    case Kind.SEQUENCE:
                        break;
                    default:
                        return false;
                }
            }
            return false;
        }

        /** A STRING in brackets must not become one of the first statements that make code strict. */
        private boolean hadBrackets(int x) {
            return tree.kindOf(x) == Kind.STRING && tree.placeOf(x) != tree.placeOf(tree.parentOf(x));
        }

        /** Ends the nodes from the last one up to those that go on behind it. */
        private void closeUpTo(int outer, int last) {
            int k = last;
            for (int i = 0; i < NODE_LIMIT && k > outer; i++) {
                if (tree.kindOf(k) >= Kind.THIS) {
                    closeExpression(k, last);
                } else {
                    closeStatement(k);
                }
                k = tree.parentOf(k);
            }
        }

        /** What a parent has ahead of its child k. */
        private void putAhead(int k) {
            int parent = tree.parentOf(k);
            int rank = tree.rankOf(k);
            switch (tree.kindOf(parent)) {
                case Kind.VAR:
                case Kind.ARRAY:
                case Kind.OBJECT:
                case Kind.SEQUENCE:
                    putIf(rank > 0, ",");
                    break;
                case Kind.DECLARATOR:
                    put("=");
                    break;
                case Kind.CASE:
                    putIf(rank == 1, ":");
                    break;
                case Kind.TRY:
                    putIf(rank == 2 && tree.kindOf(k) == Kind.BLOCK, "finally");
                    break;
                case Kind.DECLARATION:
                case Kind.FUNCTION:
                    if (tree.kindOf(k) == Kind.BODY) {
                        put(")");
                    } else {
                        putIf(rank > 0, ",");
                    }
                    break;
                case Kind.INDEX:
                    putIf(rank == 1, "[");
                    break;
                case Kind.NEW:
                case Kind.CALL:
                    putIf(rank > 0, rank == 1 ? "(" : ",");
                    break;
                case Kind.BINARY:
                case Kind.ASSIGNMENT:
                    if (rank == 1) {
                        putText(parent);
                    }
                    break;
                case Kind.CHOICE:
                    putIf(rank > 0, rank == 1 ? "?" : ":");
                    break;
                default:
                    putAheadInHead(tree.kindOf(parent), rank);
                    break;
            }
        }

        private void putAheadInHead(int kind, int rank) {
            switch (kind) {
                case Kind.IF:
                    putIf(rank > 0, rank == 1 ? ")" : "else");
                    break;
                case Kind.DO:
                    putIf(rank == 1, "while");
                    putIf(rank == 1, "(");
                    break;
                case Kind.WHILE:
                    putIf(rank == 1, ")");
                    break;
                case Kind.FOR:
                    putIf(rank > 0, rank == 3 ? ")" : ";");
                    break;
                case Kind.FOR_IN:
                    putIf(rank > 0, rank == 1 ? "in" : ")");
                    break;
                case Kind.SWITCH:
                    putIf(rank == 1, ")");
                    putIf(rank == 1, "{");
                    break;
                default:
                    break;
            }
        }

        private void open(int k) {
            putIf(hasBrackets(k), "(");
            int kind = tree.kindOf(k);
            if (kind >= Kind.THIS) {
                openExpression(k, kind);
            } else {
                openStatement(k, kind);
            }
        }

        private void openExpression(int k, int kind) {
            switch (kind) {
                case Kind.THIS:
                    put("this");
                    break;
                case Kind.NAME:
                case Kind.CONSTANT:
                case Kind.NUMBER:
                case Kind.STRING:
                case Kind.PATTERN:
                    putText(k);
                    loose = kind == Kind.NUMBER || kind == Kind.PATTERN;
                    break;
                case Kind.ARRAY:
                    put("[");
                    break;
                case Kind.OBJECT:
                    put("{");
                    break;
                case Kind.PROPERTY:
                    putText(k);
                    put(":");
                    break;
                case Kind.FUNCTION:
                    openFunction(k);
                    break;
                case Kind.NEW:
                    put("new");
                    break;
                case Kind.PREFIX:
                    putText(k);
                    break;
                default:
                    break;
            }
        }

        private void openFunction(int k) {
            put("function");
            putText(k);
            put("(");
        }

        private void openStatement(int k, int kind) {
            switch (kind) {
                case Kind.BLOCK:
                case Kind.BODY:
                    put("{");
                    break;
                case Kind.VAR:
                    put("var");
                    break;
                case Kind.DECLARATOR:
                case Kind.PARAMETER:
                    putText(k);
                    break;
                case Kind.CONTINUE:
                    put("continue");
                    putText(k);
                    break;
                case Kind.BREAK:
                    put("break");
                    putText(k);
                    break;
                case Kind.RETURN:
                    put("return");
                    break;
                case Kind.CASE:
                    put(tree.kindOf(k + 1) == Kind.NOTHING ? "default" : "case");
                    break;
                case Kind.LABEL:
                    putText(k);
                    put(":");
                    break;
                case Kind.THROW:
                    put("throw");
                    break;
                case Kind.TRY:
                    put("try");
                    break;
                case Kind.DECLARATION:
                    openFunction(k);
                    break;
                default:
                    openHead(k, kind);
                    break;
            }
        }

        private void openHead(int k, int kind) {
            switch (kind) {
                case Kind.IF:
                    put("if");
                    put("(");
                    break;
                case Kind.DO:
                    put("do");
                    break;
                case Kind.WHILE:
                    put("while");
                    put("(");
                    break;
                case Kind.FOR:
                case Kind.FOR_IN:
                    put("for");
                    put("(");
                    break;
                case Kind.SWITCH:
                    put("switch");
                    put("(");
                    break;
                case Kind.CATCH:
                    put("catch");
                    put("(");
                    putText(k);
                    put(")");
                    break;
                default:
                    break;
            }
        }

        /** What a node has behind its children, the last part of which is the node last. */
        private void closeExpression(int k, int last) {
            int children = tree.childrenOf(k);
            switch (tree.kindOf(k)) {
                case Kind.ARRAY:
                    putIf(tree.kindOf(last) == Kind.NOTHING && tree.parentOf(last) == k, ",");
                    put("]");
                    break;
                case Kind.OBJECT:
                    put("}");
                    break;
                case Kind.INDEX:
                    put("]");
                    break;
                case Kind.MEMBER:
                    put(".");
                    putText(k);
                    break;
                case Kind.NEW:
                case Kind.CALL:
                    putIf(children == 1, "(");
                    put(")");
                    break;
                case Kind.POSTFIX:
                    putText(k);
                    break;
                default:
                    break;
            }
            putIf(hasBrackets(k), ")");
        }

        private void closeStatement(int k) {
            int children = tree.childrenOf(k);
            switch (tree.kindOf(k)) {
                case Kind.BLOCK:
                case Kind.BODY:
                    put("}");
                    break;
                case Kind.SWITCH:
                    putIf(children == 1, ")");
                    putIf(children == 1, "{");
                    put("}");
                    break;
                case Kind.CASE:
                    putIf(children == 1, ":");
                    break;
                case Kind.VAR:
                    putIf(!isForPart(k), ";");
                    break;
                case Kind.DO:
                    put(")");
                    put(";");
                    break;
                case Kind.EMPTY:
                case Kind.EXPRESSION:
                case Kind.CONTINUE:
                case Kind.BREAK:
                case Kind.RETURN:
                case Kind.THROW:
                    put(";");
                    break;
                default:
                    break;
            }
        }

        /** Whether a node is the first part of a for, not its statement. */
        private boolean isForPart(int k) {
            int outer = tree.kindOf(tree.parentOf(k));
            return (outer == Kind.FOR || outer == Kind.FOR_IN) && tree.rankOf(k) == 0;
        }

        private void putIf(boolean wanted, String token) {
            if (wanted) {
                put(token);
            }
        }

        private void put(String token) {
            if (token.isEmpty()) {
                return;
            }
            separateFrom(token.charAt(0));
            for (int i = 0; i < token.length(); i++) {
                append(token.charAt(i));
            }
        }

        /** The token of the node's own; nothing if it has none. */
        private void putText(int k) {
            int size = tree.lengthOf(k);
            int place = tree.placeOf(k);
            if (size > 0) {
                separateFrom(tape.at(place));
            }
            for (int i = 0; i < size; i++) {
                append(tape.at(place + i));
            }
        }

        private void separateFrom(int first) {
            int before = at(length - 1);
            boolean joins = Tape.isNameChar(first)
                ? loose || Tape.isNameChar(before)
                : first == before && (first == '+' || first == '-' || first == '/');
            if (joins) {
                append(' ');
            }
            loose = false;
        }

        private void append(int c) {
            if (length >= 0 && length < PRINT_LIMIT) {
                chars[length] = (char) c;
                length++;
            }
        }
    }
}
