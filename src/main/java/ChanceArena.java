import java.util.Arrays;

/**
 * Games of two players and chance, told by a text of guarded commands. The states of a text are
 * found in one order, and the value of each is worked out exactly, as a fraction.
 */
public final class ChanceArena {
    /** There is none. */
    public static final int NONE = -1;

    private static final int TAPE = 16384;
    private static final int FEED = 20;
    private static final int STATES = 512;
    private static final int BRANCHES = 4096;
    private static final int VARS = 12;
    private static final int NAMES = 60;
    private static final int COMMANDS = 60;
    private static final int COMMAND_BRANCHES = 8;
    private static final int RANGE_NUMBERS = 10000;
    private static final int LEVELS = 40;
    private static final int UNKNOWNS = 40;
    private static final int BITS = 480;
    private static final int MOVES = 32;
    private static final int BILLION = 1000000000;
    /** Far above what any run needs: only there so that each loop is seen to end. */
    private static final int ENDLESS = 1000000;
    /** More rounds than any machine could go through: they end when no choice can be bettered. */
    private static final long ROUNDS = 1L << 62;

    private static final int WORD_FAULT = 1;
    private static final int NAME_FAULT = 2;
    private static final int KIND_FAULT = 3;
    private static final int TWICE_FAULT = 4;
    private static final int MANY_FAULT = 5;
    private static final int LARGE_FAULT = 6;
    private static final int ZERO_FAULT = 7;
    private static final int WHOLE_FAULT = 8;
    private static final int RANGE_FAULT = 9;
    private static final int TARGET_FAULT = 10;
    private static final int CHANCE_FAULT = 11;
    private static final int OVER_FAULT = 12;
    private static final int MIXED_FAULT = 13;

    private static final int END_STATE = 0;
    private static final int MAX_STATE = 1;
    private static final int MIN_STATE = 2;
    private static final int TARGET_STATE = 3;

    // Sorts of words; those of operations are also the machine's orders.
    private static final int END = 0;
    private static final int NO_WORD = 1;
    private static final int NAME = 2;
    private static final int NUMBER = 3;
    private static final int CONST = 4;
    private static final int VAR = 5;
    private static final int BOOL = 6;
    private static final int FORMULA = 7;
    private static final int MAX = 8;
    private static final int MIN = 9;
    private static final int INIT = 10;
    private static final int STAY = 11;
    private static final int TARGET = 12;
    private static final int TRUE = 13;
    private static final int FALSE = 14;
    private static final int LEAST = 15;
    private static final int MOST = 16;
    private static final int DOTS = 17;
    private static final int ARROW = 18;
    private static final int UNEQUAL = 19;
    private static final int LESS_EQUAL = 20;
    private static final int GREATER_EQUAL = 21;
    private static final int LESS = 22;
    private static final int GREATER = 23;
    private static final int EQUAL = 24;
    private static final int PLUS = 25;
    private static final int MINUS = 26;
    private static final int TIMES = 27;
    private static final int DIVIDED = 28;
    private static final int REST = 29;
    private static final int AND = 30;
    private static final int OR = 31;
    private static final int NOT = 32;
    private static final int ASK = 33;
    private static final int COLON = 34;
    private static final int SEMICOLON = 35;
    private static final int COMMA = 36;
    private static final int OPEN = 37;
    private static final int CLOSE = 38;
    private static final int PRIME = 39;
    // Orders and open operations that are no words of their own.
    private static final int NEGATE = 40;
    private static final int DENY = 41;
    private static final int ELSE = 42;
    private static final int SET = 43;
    /** An order to set has its place times this, and the var. */
    private static final int SET_VARS = 16;

    private char[] tape = new char[256];
    private int tapeLength = 0;
    private final Words words = new Words();
    private final TextReader reader = new TextReader();
    private Program text = new Program();
    private Program spare = new Program();
    private boolean hasText = false;
    private int faultPlace = NONE;
    private int faultState = NONE;
    private final Game game = new Game();
    private final Solver solver = new Solver(game);
    private final Fractions values = new Fractions();
    private Fractions withins = new Fractions();
    private Fractions earlier = new Fractions();
    private final Fractions judged = new Fractions();
    private final Natural number = new Natural();
    private final Fraction shown = new Fraction();
    private final char[] printed = new char[400];
    private int printedLength = 0;

    /** An empty tape, no text, no states, nothing printed. */
    public ChanceArena() {
    }

    /** Twenty more characters on the tape, four by each number, its highest byte first. */
    public int feed(int a, int b, int c, int d, int e) {
        if (tapeLength + FEED > TAPE) {
            return NONE;
        }
        if (tapeLength + FEED > tape.length) {
            tape = growTape();
        }
        putFour(a);
        putFour(b);
        putFour(c);
        putFour(d);
        putFour(e);
        return tapeLength;
    }

    private char[] growTape() {
        char[] larger = new char[2 * tape.length];
        System.arraycopy(tape, 0, larger, 0, tapeLength);
        return larger;
    }

    private void putFour(int bytes) {
        for (int shift = 24; shift >= 0; shift -= 8) {
            tape[tapeLength++] = (char) ((bytes >>> shift) & 255);
        }
    }

    /** The tape's last twenty characters become the first n of them. */
    public int end(int n) throws IllegalArgumentException {
        if (n < 0 || n > FEED || tapeLength < FEED) {
            throw new IllegalArgumentException();
        }
        tapeLength += n - FEED;
        return tapeLength;
    }

    /** The tape becomes the text: 0, or the fault. */
    public int compile() {
        words.split(tape, tapeLength);
        tapeLength = 0;
        int fault = reader.translate(words, spare);
        faultPlace = fault == 0 ? NONE : reader.faultPlace();
        if (fault == 0) {
            Program old = text;
            text = spare;
            spare = old;
            hasText = true;
            game.clear();
            forget();
        }
        return fault;
    }

    private void forget() {
        values.known = false;
        withins.known = false;
        judged.known = false;
    }

    /** The place of the latest fault of compile() or explore(). */
    public int place() {
        return faultPlace;
    }

    /** How many vars (0), consts and formulas (1), commands (2) the text has. */
    public int items(int what) {
        if (!hasText) {
            return NONE;
        }
        switch (what) {
            case 0:
                return text.vars;
            case 1:
                return text.names;
            case 2:
                return text.commands;
            default:
                return NONE;
        }
    }

    /** Finds all states: 0, or the fault. */
    public int explore() throws IllegalStateException {
        if (!hasText) {
            throw new IllegalStateException();
        }
        forget();
        int fault = game.discover(text);
        faultPlace = fault == 0 ? NONE : game.place;
        faultState = fault == 0 ? NONE : game.faultState;
        return fault;
    }

    /** The state in which the fault of the latest explore() was. */
    public int state() {
        return faultState;
    }

    /** How many states there are. */
    public int states() {
        return game.count;
    }

    /** The value of var v in state k. */
    public int variable(int k, int v) throws IndexOutOfBoundsException {
        if (!game.hasState(k) || v < 0 || v >= text.vars) {
            throw new IndexOutOfBoundsException();
        }
        return game.numbers[k * VARS + v];
    }

    /** 0 an end, 1 MAX'S, 2 MIN'S, 3 a target. */
    public int kind(int k) {
        return game.hasState(k) ? game.sorts[k] : NONE;
    }

    /** How many commands a state has. */
    public int commands(int k) {
        return game.hasState(k) ? game.firstCommand[k + 1] - game.firstCommand[k] : NONE;
    }

    /** Which command of the text a state's command i is. */
    public int command(int k, int i) {
        int found = game.commandAt(k, i);
        return found == NONE ? NONE : game.textCommand[found];
    }

    /** How many branches command i of a state has. */
    public int branches(int k, int i) {
        int found = game.commandAt(k, i);
        return found == NONE ? NONE : game.firstBranch[found + 1] - game.firstBranch[found];
    }

    /** Branch j of it: where it leads (0), its chance's number above (1), below (2). */
    public int branch(int k, int i, int j, int what) {
        int found = game.commandAt(k, i);
        if (found == NONE || j < 0 || j >= game.firstBranch[found + 1] - game.firstBranch[found]) {
            return NONE;
        }
        int at = game.firstBranch[found] + j;
        int common = (int) Machine.commonDivisor(game.weight[at], game.multiple[found]);
        switch (what) {
            case 0:
                return game.goal[at];
            case 1:
                return game.weight[at] / common;
            case 2:
                return game.multiple[found] / common;
            default:
                return NONE;
        }
    }

    /** Works out all values: 0, or the refusal. */
    public int solve() throws IllegalStateException {
        if (game.count == 0) {
            throw new IllegalStateException();
        }
        int refusal = solver.workOut(0, values);
        if (refusal == 0) {
            solver.rankAndChoose(values);
        }
        return refusal;
    }

    /** Works out WITHIN n for all states: 0, or 6. */
    public int within(int n) throws IllegalArgumentException, IllegalStateException {
        if (n < 0 || n > MOVES) {
            throw new IllegalArgumentException();
        }
        if (game.count == 0) {
            throw new IllegalStateException();
        }
        withins.known = false;
        withins.begin(game);
        for (int move = 0; move < n; move++) {
            Fractions before = withins;
            withins = earlier;
            earlier = before;
            if (!solver.scales.move(game, before, withins)) {
                return LARGE_FAULT;
            }
        }
        withins.known = true;
        return 0;
    }

    /** The choice of a state is told. */
    public void choose(int k, int i) throws IndexOutOfBoundsException {
        if (game.commandAt(k, i) == NONE) {
            throw new IndexOutOfBoundsException();
        }
        game.told[k] = i;
    }

    /** All choices become those that were worked out. */
    public void adopt() throws IllegalStateException {
        if (!values.known) {
            throw new IllegalStateException();
        }
        for (int k = 0; k < game.count; k++) {
            game.told[k] = Math.max(solver.choices[k], 0);
        }
    }

    /** Works out what is JUDGED when a player keeps to the choices that are told. */
    public int judge(int player) throws IllegalArgumentException, IllegalStateException {
        if (player != MAX_STATE && player != MIN_STATE) {
            throw new IllegalArgumentException();
        }
        if (game.count == 0) {
            throw new IllegalStateException();
        }
        return solver.workOut(player, judged);
    }

    /** Prints a fraction of a state: how many characters. */
    public int print(int k, int what) {
        Fraction fraction = fractionOf(k, what);
        if (fraction == null) {
            return NONE;
        }
        shown.put(fraction);
        solver.scales.reduce(shown);
        printedLength = 0;
        printNumber(shown.above);
        if (!shown.below.isOne()) {
            printed[printedLength++] = '/';
            printNumber(shown.below);
        }
        return printedLength;
    }

    private Fraction fractionOf(int k, int what) {
        Fractions table = what == 0 ? values : what == 1 ? withins : what == 2 ? judged : null;
        return table == null || !table.known || !game.hasState(k) ? null : table.rows[k];
    }

    private void printNumber(Natural natural) {
        number.put(natural);
        int start = printedLength;
        for (int part = 0; part < BITS && (part == 0 || number.size > 0); part++) {
            int nine = number.divideSmall(BILLION);
            boolean last = number.size == 0;
            for (int digit = 0; digit < 9 && (digit == 0 || !last || nine > 0); digit++) {
                printed[printedLength++] = (char) ('0' + nine % 10);
                nine /= 10;
            }
        }
        for (int low = start, high = printedLength - 1; low < high; low++, high--) {
            char kept = printed[low];
            printed[low] = printed[high];
            printed[high] = kept;
        }
    }

    /** Character i of what was printed latest. */
    public int character(int i) {
        return i < 0 || i >= printedLength ? NONE : printed[i];
    }

    /** Compares the fractions of two states: -1, 0, 1; -2 when one of them is none. */
    public int compare(int k, int what, int other, int with) {
        Fraction first = fractionOf(k, what);
        Fraction second = fractionOf(other, with);
        return first == null || second == null ? -2 : solver.scales.order(first, second);
    }

    /** A fraction times 1000000000, rounded down. */
    public int billionths(int k, int what) {
        Fraction fraction = fractionOf(k, what);
        if (fraction == null) {
            return NONE;
        }
        shown.put(fraction);
        number.put(shown.above);
        number.multiply(BILLION);
        return solver.scales.wholePart(number, shown.below);
    }

    /** The choice of a state that was worked out. */
    public int choice(int k) {
        return values.known && game.hasState(k) ? solver.choices[k] : NONE;
    }

    /** The rank of a state. */
    public int rank(int k) {
        return values.known && game.hasState(k) ? solver.ranks[k] : NONE;
    }

    /** Where a state's told choice leads when chance draws r / 2^31. */
    public int next(int k, int r) {
        if (!game.hasState(k) || r < 0) {
            return NONE;
        }
        int command = game.commandAt(k, game.told[k]);
        return command == NONE ? k : game.drawn(command, r);
    }

    /** Whether what was worked out holds. */
    public int check() {
        if (!values.known) {
            return NONE;
        }
        return solver.holds(values) ? 1 : 0;
    }

    /** The words of a tape. */
    private static final class Words {
        private static final int NAME_LENGTH = 40;
        private static final int DIGITS = 9;

        char[] tape = new char[0];
        int length;
        int count;
        int[] sorts = new int[128];
        int[] starts = new int[128];
        /** A number's value, or a name's length. */
        int[] amounts = new int[128];

        void split(char[] characters, int characterCount) {
            tape = characters;
            length = characterCount;
            count = 0;
            reserve(length + 2);
            int at = afterBlanks(0);
            for (int word = 0; word < length && at < length; word++) {
                at = afterBlanks(takeWord(at));
            }
            add(END, length, 0);
        }

        private void reserve(int wanted) {
            int capacity = sorts.length;
            for (int doubling = 0; doubling < 31 && capacity < wanted; doubling++) {
                capacity *= 2;
            }
            if (capacity > sorts.length) {
                sorts = new int[capacity];
                starts = new int[capacity];
                amounts = new int[capacity];
            }
        }

        private void add(int sort, int start, int amount) {
            sorts[count] = sort;
            starts[count] = start;
            amounts[count] = amount;
            count++;
        }

        private int afterBlanks(int from) {
            boolean comment = false;
            for (int at = from; at < length; at++) {
                char c = tape[at];
                comment = c == '#' || comment && c != 10;
                if (!comment && c != 9 && c != 10 && c != 13 && c != 32) {
                    return at;
                }
            }
            return length;
        }

        /** Adds the word that begins here; answers where it is over. No word ends the tape. */
        private int takeWord(int from) {
            char c = tape[from];
            if (isLetter(c)) {
                return takeName(from);
            }
            if (isDigit(c)) {
                return takeNumber(from);
            }
            char second = from + 1 < length ? tape[from + 1] : ' ';
            int sort = longSign(c, second);
            int over = from + 2;
            if (sort == NO_WORD) {
                sort = shortSign(c);
                over = from + 1;
            }
            add(sort, from, 0);
            return sort == NO_WORD ? length : over;
        }

        private int takeName(int from) {
            int over = from + 1;
            while (over < length && (isLetter(tape[over]) || isDigit(tape[over]) || tape[over] == '_')) {
                over++;
            }
            boolean fits = over - from <= NAME_LENGTH;
            add(fits ? nameSort(from, over - from) : NO_WORD, from, over - from);
            return fits ? over : length;
        }

        private int takeNumber(int from) {
            int value = 0;
            int over = from;
            while (over < length && isDigit(tape[over])) {
                value = over - from < DIGITS ? 10 * value + (tape[over] - '0') : 0;
                over++;
            }
            boolean fits = over - from <= DIGITS;
            add(fits ? NUMBER : NO_WORD, from, value);
            return fits ? over : length;
        }

        private static boolean isLetter(char c) {
            return c >= 'a' && c <= 'z' || c >= 'A' && c <= 'Z';
        }

        private static boolean isDigit(char c) {
            return c >= '0' && c <= '9';
        }

        private static int longSign(char c, char second) {
            if (c == '.' && second == '.') {
                return DOTS;
            }
            if (c == '-' && second == '>') {
                return ARROW;
            }
            if (second != '=') {
                return NO_WORD;
            }
            return c == '!' ? UNEQUAL : c == '<' ? LESS_EQUAL : c == '>' ? GREATER_EQUAL : NO_WORD;
        }

        private static int shortSign(char c) {
            switch (c) {
                case '<': return LESS;
                case '>': return GREATER;
                case '=': return EQUAL;
                case '+': return PLUS;
                case '-': return MINUS;
                case '*': return TIMES;
                case '/': return DIVIDED;
                case '%': return REST;
                case '&': return AND;
                case '|': return OR;
                case '!': return NOT;
                case '?': return ASK;
                case ':': return COLON;
                case ';': return SEMICOLON;
                case ',': return COMMA;
                case '(': return OPEN;
                case ')': return CLOSE;
                case '\'': return PRIME;
                default: return NO_WORD;
            }
        }

        private int nameSort(int from, int size) {
            switch (size) {
                case 3:
                    return spells(from, "var") ? VAR : spells(from, "max") ? MAX
                        : spells(from, "min") ? MIN : NAME;
                case 4:
                    return spells(from, "true") ? TRUE : spells(from, "stay") ? STAY
                        : spells(from, "bool") ? BOOL : spells(from, "init") ? INIT
                        : spells(from, "most") ? MOST : NAME;
                case 5:
                    return spells(from, "const") ? CONST : spells(from, "false") ? FALSE
                        : spells(from, "least") ? LEAST : NAME;
                case 6:
                    return spells(from, "target") ? TARGET : NAME;
                case 7:
                    return spells(from, "formula") ? FORMULA : NAME;
                default:
                    return NAME;
            }
        }

        private boolean spells(int from, String word) {
            for (int i = 0; i < word.length(); i++) {
                if (tape[from + i] != word.charAt(i)) {
                    return false;
                }
            }
            return true;
        }

        boolean same(int oneStart, int otherStart, int size) {
            for (int i = 0; i < size; i++) {
                if (tape[oneStart + i] != tape[otherStart + i]) {
                    return false;
                }
            }
            return true;
        }
    }

    /** A text that was read: its tables, and its rules as orders for the machine. */
    private static final class Program {
        int[] orders = new int[128];
        int[] operands = new int[128];
        int length;
        int vars;
        final int[] low = new int[VARS];
        final int[] high = new int[VARS];
        final int[] init = new int[VARS];
        int names;
        final int[] above = new int[NAMES];
        final int[] below = new int[NAMES];
        final int[] formula = new int[NAMES];
        int target;
        int commands;
        final int[] player = new int[COMMANDS];
        final int[] commandPlace = new int[COMMANDS];
        final int[] guard = new int[COMMANDS];
        final int[] firstBranch = new int[COMMANDS + 1];
        final int[] branchPlace = new int[COMMANDS * COMMAND_BRANCHES];
        final int[] chance = new int[COMMANDS * COMMAND_BRANCHES];
        final int[] sets = new int[COMMANDS * COMMAND_BRANCHES];

        /** No word makes more than one order, so all of them have room then. */
        void clear(int wordCount) {
            length = 0;
            vars = 0;
            names = 0;
            commands = 0;
            target = NONE;
            firstBranch[0] = 0;
            int capacity = orders.length;
            for (int doubling = 0; doubling < 31 && capacity < wordCount; doubling++) {
                capacity *= 2;
            }
            if (capacity > orders.length) {
                orders = new int[capacity];
                operands = new int[capacity];
            }
        }

        int add(int order, int operand) {
            if (length < orders.length) {
                orders[length] = order;
                operands[length] = operand;
                length++;
            }
            return length - 1;
        }
    }

    /**
     * Reads rules, with a stack of open operations instead of recursion. A word that can't stand
     * is refused where it stands; other faults are noted, and only the first one is kept.
     */
    private static final class RuleReader {
        static final int ANY = 0;
        static final int NUMBERS = 1;
        static final int TRUTHS = 2;
        private static final int GO_ON = 0;
        private static final int OVER = 1;
        private static final int REFUSED = 2;
        private static final int COMPARING = 4;
        private static final int ROOM = 8 * (LEVELS + 2);
        // Marks of an open least or most, and of an open '?'.
        private static final int WRONG_KIND = 1;
        private static final int FOLLOWS = 2;
        private static final int TRUTH_FIRST = 4;

        Words words;
        Program text;
        int at;
        int fault;
        int place;
        int depth;
        boolean constsOnly;
        private boolean operandWanted;
        private final int[] open = new int[ROOM];
        private final int[] openPlace = new int[ROOM];
        private final int[] openOrder = new int[ROOM];
        private final int[] openMarks = new int[ROOM];
        private int opened;
        private final boolean[] truths = new boolean[ROOM];
        private int operandCount;
        private final int[] nameWord = new int[VARS + NAMES];
        private final int[] nameSort = new int[VARS + NAMES];
        private final int[] nameIndex = new int[VARS + NAMES];
        private final boolean[] nameTruth = new boolean[VARS + NAMES];
        private int nameCount;

        void begin(Words source, Program program) {
            words = source;
            text = program;
            at = 0;
            fault = 0;
            place = NONE;
            depth = 0;
            nameCount = 0;
        }

        int here() {
            return words.starts[at];
        }

        boolean accept(int sort) {
            if (words.sorts[at] != sort) {
                return false;
            }
            at++;
            return true;
        }

        void note(int newFault, int newPlace) {
            if (fault == 0) {
                fault = newFault;
                place = newPlace;
            }
        }

        void know(int word, int sort, int index, boolean truth) {
            if (nameCount < nameWord.length) {
                nameWord[nameCount] = word;
                nameSort[nameCount] = sort;
                nameIndex[nameCount] = index;
                nameTruth[nameCount] = truth;
                nameCount++;
            }
        }

        int find(int word) {
            int size = words.amounts[word];
            for (int i = 0; i < nameCount; i++) {
                int known = nameWord[i];
                if (words.amounts[known] == size
                        && words.same(words.starts[known], words.starts[word], size)) {
                    return i;
                }
            }
            return NONE;
        }

        /** The var that the word names, or NONE. */
        int varOf(int word) {
            int found = find(word);
            return found == NONE || nameSort[found] != VAR ? NONE : nameIndex[found];
        }

        /** The kind that the name's rule must have. */
        int kindOf(int word) {
            int found = find(word);
            return found == NONE ? ANY : nameTruth[found] ? TRUTHS : NUMBERS;
        }

        /** Whether the rule that was read latest is a truth. */
        boolean isTruth() {
            return truths[0];
        }

        /** Reads a rule (without asks: an "or") of a kind; whether all its words can stand. */
        boolean readRule(int kind, boolean asks) {
            int first = here();
            int step = GO_ON;
            opened = 0;
            operandCount = 0;
            operandWanted = true;
            for (int left = words.count - at; left > 0 && step == GO_ON; left--) {
                step = operandWanted ? takeOperand() : takeOperator(asks);
                while (!operandWanted && opened > 0 && open[opened - 1] == NEGATE) {
                    opened--;
                    group();
                }
            }
            if (step == OVER && kind != ANY && isTruth() != (kind == TRUTHS)) {
                note(KIND_FAULT, first);
            }
            return step == OVER;
        }

        private int takeOperand() {
            int sort = words.sorts[at];
            int start = here();
            switch (sort) {
                case NUMBER:
                    return takeValue(NUMBER, words.amounts[at], false);
                case TRUE:
                case FALSE:
                    return takeValue(NUMBER, sort == TRUE ? 1 : 0, true);
                case NAME:
                    int found = find(at);
                    if (found == NONE || constsOnly && nameSort[found] != CONST) {
                        note(NAME_FAULT, start);
                        return takeValue(NUMBER, 0, false);
                    }
                    return takeValue(nameSort[found], nameIndex[found], nameTruth[found]);
                case OPEN:
                    return takeLevel(OPEN, start);
                case MINUS:
                    return takeLevel(NEGATE, start);
                case NOT:
                    return mayDeny() ? takeLevel(DENY, start) : REFUSED;
                case LEAST:
                case MOST:
                    at++;
                    return words.sorts[at] == OPEN ? takeLevel(sort, start) : REFUSED;
                default:
                    return REFUSED;
            }
        }

        private boolean mayDeny() {
            if (opened == 0) {
                return true;
            }
            int top = open[opened - 1];
            return level(top) < COMPARING && top != NEGATE;
        }

        private int takeValue(int order, int operand, boolean truth) {
            text.add(order, operand);
            pushKind(truth);
            operandWanted = false;
            at++;
            return GO_ON;
        }

        private void pushKind(boolean truth) {
            if (operandCount < ROOM) {
                truths[operandCount++] = truth;
            }
        }

        private boolean popKind() {
            return operandCount > 0 && truths[--operandCount];
        }

        /** The word here begins a level, if there may be one more. */
        private int takeLevel(int operation, int operationPlace) {
            if (depth >= LEVELS) {
                return REFUSED;
            }
            depth++;
            push(operation, operationPlace, NONE);
            return GO_ON;
        }

        /** The operation's sign is read, and an operand must follow it. */
        private void push(int operation, int operationPlace, int order) {
            if (opened < ROOM) {
                open[opened] = operation;
                openPlace[opened] = operationPlace;
                openOrder[opened] = order;
                openMarks[opened] = 0;
                opened++;
            }
            operandWanted = true;
            at++;
        }

        /** How tight an operation binds; 0 what is none, or holds rules of its own. */
        private static int level(int operation) {
            switch (operation) {
                case OR:
                    return 1;
                case AND:
                    return 2;
                case DENY:
                    return 3;
                case EQUAL:
                case UNEQUAL:
                case LESS:
                case LESS_EQUAL:
                case GREATER:
                case GREATER_EQUAL:
                    return COMPARING;
                case PLUS:
                case MINUS:
                    return 5;
                case TIMES:
                case DIVIDED:
                case REST:
                    return 6;
                default:
                    return 0;
            }
        }

        private int takeOperator(boolean asks) {
            int sort = words.sorts[at];
            int level = level(sort);
            int tightest = level == COMPARING ? level + 1 : Math.max(level, 1);
            while (opened > 0 && level(open[opened - 1]) >= tightest) {
                opened--;
                group();
            }
            if (level > 0) {
                return takeSign(sort, level);
            }
            if (sort == ASK && (opened > 0 || asks)) {
                return takeAsk();
            }
            while (opened > 0 && open[opened - 1] == ELSE) {
                opened--;
                group();
            }
            return opened == 0 ? OVER : closeInner(sort, opened - 1);
        }

        private int takeSign(int sort, int level) {
            if (level == COMPARING && opened > 0 && level(open[opened - 1]) == COMPARING) {
                return REFUSED;
            }
            // Behind the first operand stands the order that may leave the second one out.
            push(sort, here(), sort == AND || sort == OR ? text.add(sort, 0) : NONE);
            return GO_ON;
        }

        private int takeAsk() {
            if (depth >= LEVELS || opened >= ROOM) {
                return REFUSED;
            }
            depth++;
            int marks = popKind() ? 0 : WRONG_KIND;
            push(ASK, here(), text.add(ASK, 0));
            openMarks[opened - 1] = marks;
            return GO_ON;
        }

        /** The word here must go on with the innermost '?', '(', least or most, or end it. */
        private int closeInner(int sort, int top) {
            boolean asked = open[top] == ASK;
            boolean listed = open[top] == LEAST || open[top] == MOST;
            boolean goesOn = asked && sort == COLON || listed && sort == COMMA;
            if (!goesOn && (asked || sort != CLOSE)) {
                return REFUSED;
            }
            if (asked) {
                openMarks[top] |= popKind() ? TRUTH_FIRST : 0;
                int jump = text.add(ELSE, 0);
                text.operands[openOrder[top]] = text.length;
                openOrder[top] = jump;
                open[top] = ELSE;
            }
            if (listed) {
                if ((openMarks[top] & FOLLOWS) != 0) {
                    text.add(open[top], openPlace[top]);
                }
                openMarks[top] |= FOLLOWS | (popKind() ? WRONG_KIND : 0);
            }
            if (listed && !goesOn) {
                if ((openMarks[top] & WRONG_KIND) != 0) {
                    note(KIND_FAULT, openPlace[top]);
                }
                pushKind(false);
            }
            if (!goesOn) {
                opened--;
                depth--;
            }
            operandWanted = goesOn;
            at++;
            return GO_ON;
        }

        /** All that the operation that was open last is made of has been looked at. */
        private void group() {
            int operation = open[opened];
            boolean last = popKind();
            boolean truth = level(operation) <= COMPARING;
            boolean fits;
            switch (operation) {
                case NEGATE:
                    fits = !last;
                    truth = false;
                    break;
                case DENY:
                    fits = last;
                    break;
                case ELSE:
                    fits = openMarks[opened] == (last ? TRUTH_FIRST : 0);
                    truth = last;
                    break;
                case AND:
                case OR:
                    fits = popKind() && last;
                    break;
                case EQUAL:
                case UNEQUAL:
                    fits = popKind() == last;
                    break;
                default:
                    fits = !popKind() && !last;
                    break;
            }
            if (!fits) {
                note(KIND_FAULT, openPlace[opened]);
            }
            pushKind(truth);
            if (operation == NEGATE || operation == DENY || operation == ELSE) {
                depth--;
            }
            if (openOrder[opened] != NONE) {
                text.operands[openOrder[opened]] = text.length;
            } else {
                text.add(operation, openPlace[opened]);
            }
        }
    }

    /** Reads a whole text, item by item. */
    private static final class TextReader {
        private final RuleReader rules = new RuleReader();
        private final Machine machine = new Machine();
        private Program text;
        /** Of the item that was read latest: its name's word, and where its rules begin. */
        private int nameWord;
        private int itemStart;
        private final int[] ruleStart = new int[3];
        private final int[] rulePlace = new int[3];
        private boolean inited;
        private boolean truth;

        int faultPlace() {
            return rules.place;
        }

        /** Reads the words into the program: 0, or the fault. */
        int translate(Words words, Program program) {
            text = program;
            text.clear(words.count);
            machine.text = text;
            rules.begin(words, text);
            for (int item = 0; item < words.count && words.sorts[rules.at] != END; item++) {
                int sort = words.sorts[rules.at];
                boolean stands = sort == VAR ? readVar() : sort == TARGET ? readTarget()
                    : sort == MAX || sort == MIN ? readCommand(sort)
                    : (sort == CONST || sort == FORMULA) && readNamed(sort);
                if (!stands) {
                    // A word that can't stand goes before all that was noted.
                    rules.fault = WORD_FAULT;
                    rules.place = rules.here();
                    return WORD_FAULT;
                }
                if (sort == VAR) {
                    settleVar();
                } else if (sort == CONST || sort == FORMULA) {
                    settleNamed(sort);
                }
            }
            if (text.target == NONE) {
                rules.note(TARGET_FAULT, words.length);
            }
            return rules.fault;
        }

        /** Reads the item's first word and its name, which must be a new one. */
        private boolean readName(boolean many) {
            if (many) {
                rules.note(MANY_FAULT, rules.here());
            }
            rules.at++;
            nameWord = rules.at;
            if (!rules.accept(NAME)) {
                return false;
            }
            if (rules.find(nameWord) != NONE) {
                rules.note(NAME_FAULT, rules.words.starts[nameWord]);
            }
            return true;
        }

        private boolean readItemRule(int which, int kind) {
            ruleStart[which] = text.length;
            rulePlace[which] = rules.here();
            if (!rules.readRule(kind, true)) {
                return false;
            }
            text.add(END, 0);
            return true;
        }

        private boolean readNamed(int sort) {
            rules.constsOnly = sort == CONST;
            if (!readName(text.names >= NAMES) || !rules.accept(EQUAL)
                    || !readItemRule(0, RuleReader.ANY)) {
                return false;
            }
            truth = rules.isTruth();
            return rules.accept(SEMICOLON);
        }

        /** The item stands; what is wrong with its number is noted. */
        private void settleNamed(int sort) {
            if (rules.fault != 0 || sort == CONST && !worksOut(0, false)) {
                return;
            }
            int index = text.names;
            text.names++;
            text.formula[index] = ruleStart[0];
            if (sort == CONST) {
                text.above[index] = machine.above[0];
                text.below[index] = machine.below[0];
                // A const's rule is not worked out again.
                text.length = ruleStart[0];
            }
            rules.know(nameWord, sort, index, truth);
        }

        private boolean worksOut(int which, boolean whole) {
            if (!machine.run(ruleStart[which])) {
                rules.note(machine.fault, machine.place);
                return false;
            }
            if (whole && machine.below[0] != 1) {
                rules.note(WHOLE_FAULT, rulePlace[which]);
                return false;
            }
            return true;
        }

        private boolean readVar() {
            rules.constsOnly = true;
            itemStart = text.length;
            if (!readName(text.vars >= VARS) || !rules.accept(COLON)) {
                return false;
            }
            truth = rules.accept(BOOL);
            if (!truth && (!readItemRule(0, RuleReader.NUMBERS) || !rules.accept(DOTS)
                    || !readItemRule(1, RuleReader.NUMBERS))) {
                return false;
            }
            inited = rules.accept(INIT);
            if (inited && !readItemRule(2, truth ? RuleReader.TRUTHS : RuleReader.NUMBERS)) {
                return false;
            }
            return rules.accept(SEMICOLON);
        }

        /** The item stands; what is wrong with its numbers is noted. */
        private void settleVar() {
            int low = 0;
            int high = 1;
            if (rules.fault == 0 && !truth) {
                low = worksOut(0, true) ? machine.above[0] : 0;
                high = rules.fault == 0 && worksOut(1, true) ? machine.above[0] : low;
                // Both are below a billion in size, so the difference can't wrap.
                if (high < low || high - low >= RANGE_NUMBERS) {
                    rules.note(RANGE_FAULT, rulePlace[1]);
                }
            }
            int init = rules.fault == 0 && inited && worksOut(2, true) ? machine.above[0] : low;
            if (init < low || init > high) {
                rules.note(RANGE_FAULT, rulePlace[2]);
            }
            if (rules.fault == 0) {
                text.low[text.vars] = low;
                text.high[text.vars] = high;
                text.init[text.vars] = init;
                rules.know(nameWord, VAR, text.vars, truth);
                text.vars++;
                text.length = itemStart;
            }
        }

        private boolean readTarget() {
            if (text.target != NONE) {
                rules.note(TWICE_FAULT, rules.here());
            }
            rules.at++;
            rules.constsOnly = false;
            if (!readItemRule(0, RuleReader.TRUTHS)) {
                return false;
            }
            text.target = ruleStart[0];
            return rules.accept(SEMICOLON);
        }

        private boolean readCommand(int sort) {
            if (text.commands >= COMMANDS) {
                rules.note(MANY_FAULT, rules.here());
            }
            int index = Math.min(text.commands, COMMANDS - 1);
            text.player[index] = sort == MAX ? MAX_STATE : MIN_STATE;
            text.commandPlace[index] = rules.here();
            rules.at++;
            rules.constsOnly = false;
            if (!readItemRule(0, RuleReader.TRUTHS) || !rules.accept(ARROW)) {
                return false;
            }
            text.guard[index] = ruleStart[0];
            text.firstBranch[index + 1] = text.firstBranch[index];
            boolean more = true;
            for (int branch = 0; branch < rules.words.count && more; branch++) {
                if (branch >= COMMAND_BRANCHES) {
                    rules.note(MANY_FAULT, rules.here());
                }
                if (!readChance(index) || !readSets()) {
                    return false;
                }
                if (rules.fault == 0) {
                    text.firstBranch[index + 1]++;
                }
                more = rules.accept(PLUS);
            }
            text.commands = index + 1;
            return rules.accept(SEMICOLON);
        }

        private boolean readChance(int command) {
            int first = rules.here();
            int start = text.length;
            if (!rules.readRule(RuleReader.NUMBERS, false)) {
                return false;
            }
            text.add(END, 0);
            if (rules.fault == 0) {
                int branch = text.firstBranch[command + 1];
                text.branchPlace[branch] = first;
                text.chance[branch] = start;
                text.sets[branch] = text.length;
            }
            return rules.accept(COLON);
        }

        private boolean readSets() {
            boolean more = !rules.accept(STAY);
            int seen = 0;
            for (int set = 0; set < rules.words.count && more; set++) {
                int place = rules.here();
                if (rules.depth >= LEVELS || !rules.accept(OPEN)) {
                    return false;
                }
                int word = rules.at;
                if (!rules.accept(NAME)) {
                    return false;
                }
                int var = rules.varOf(word);
                if (var == NONE) {
                    rules.note(NAME_FAULT, rules.words.starts[word]);
                } else if ((seen >> var & 1) != 0) {
                    rules.note(TWICE_FAULT, rules.words.starts[word]);
                }
                seen |= var == NONE ? 0 : 1 << var;
                rules.depth++;
                if (!rules.accept(PRIME) || !rules.accept(EQUAL)
                        || !rules.readRule(rules.kindOf(word), true) || !rules.accept(CLOSE)) {
                    return false;
                }
                rules.depth--;
                text.add(SET, place * SET_VARS + Math.max(var, 0));
                more = rules.accept(AND);
            }
            text.add(END, 0);
            return true;
        }
    }

    /** Works out rules in a state. Its stacks stand in for calls of formulas, so nothing recurs. */
    private static final class Machine {
        Program text;
        int fault;
        int place;
        /** The values of all vars in the state, from base on; what sets make of them. */
        private int[] numbers = new int[VARS];
        private int base;
        final int[] next = new int[VARS];
        /** The stack; behind a run, its first place has the result (a truth as 1 or 0). */
        int[] above = new int[64];
        int[] below = new int[64];
        private int top;
        /** Formulas that were met in the state have its stamp, and their values. */
        private int stamp = 0;
        private final int[] stamps = new int[NAMES];
        private final int[] metAbove = new int[NAMES];
        private final int[] metBelow = new int[NAMES];
        private final int[] called = new int[NAMES + 1];
        private final int[] back = new int[NAMES + 1];
        private int calls;

        static long commonDivisor(long one, long other) {
            long a = one < 0 ? -one : one;
            long b = other;
            for (int step = 0; step < 100 && b != 0; step++) {
                long rest = a % b;
                a = b;
                b = rest;
            }
            return a == 0 ? 1 : a;
        }

        void enter(int[] stateNumbers, int from) {
            numbers = stateNumbers;
            base = from;
            stamp++;
        }

        void beginSets() {
            System.arraycopy(numbers, base, next, 0, VARS);
        }

        /** Runs the orders from start on; whether there was no fault. */
        boolean run(int start) {
            int at = start;
            top = 0;
            calls = 0;
            for (int step = 0; step < ENDLESS && at >= 0 && at < text.length; step++) {
                int order = text.orders[at];
                int operand = text.operands[at];
                at++;
                switch (order) {
                    case NUMBER:
                        push(operand, 1);
                        break;
                    case CONST:
                        push(text.above[operand], text.below[operand]);
                        break;
                    case VAR:
                        push(numbers[base + operand], 1);
                        break;
                    case FORMULA:
                        at = meet(operand, at);
                        break;
                    case AND:
                    case OR:
                        boolean decided = (above[top - 1] == 0) == (order == AND);
                        at = decided ? operand : at;
                        top = decided ? top : top - 1;
                        break;
                    case ASK:
                        top--;
                        at = above[top] == 0 ? operand : at;
                        break;
                    case ELSE:
                        at = operand;
                        break;
                    case END:
                        if (calls == 0) {
                            return true;
                        }
                        at = comeBack();
                        break;
                    default:
                        if (!compute(order, operand)) {
                            return false;
                        }
                        break;
                }
            }
            return stop(LARGE_FAULT, 0);
        }

        private boolean stop(int newFault, int newPlace) {
            fault = newFault;
            place = newPlace;
            return false;
        }

        private void push(int numberAbove, int numberBelow) {
            if (top == above.length) {
                above = Arrays.copyOf(above, 2 * top);
                below = Arrays.copyOf(below, 2 * top);
            }
            above[top] = numberAbove;
            below[top] = numberBelow;
            top++;
        }

        /** Pushes a formula's value, or goes where it is worked out. */
        private int meet(int formula, int at) {
            if (stamps[formula] == stamp) {
                push(metAbove[formula], metBelow[formula]);
                return at;
            }
            called[calls] = formula;
            back[calls] = at;
            calls++;
            return text.formula[formula];
        }

        private int comeBack() {
            calls--;
            int formula = called[calls];
            stamps[formula] = stamp;
            metAbove[formula] = above[top - 1];
            metBelow[formula] = below[top - 1];
            return back[calls];
        }

        private boolean compute(int order, int operand) {
            switch (order) {
                case NEGATE:
                    above[top - 1] = -above[top - 1];
                    return true;
                case DENY:
                    above[top - 1] = 1 - above[top - 1];
                    return true;
                case SET:
                    return store(operand / SET_VARS, operand % SET_VARS);
                default:
                    break;
            }
            top--;
            long a = above[top - 1];
            long b = below[top - 1];
            long c = above[top];
            long d = below[top];
            switch (order) {
                case PLUS:
                    return settle(a * d + c * b, b * d, operand);
                case MINUS:
                    return settle(a * d - c * b, b * d, operand);
                case TIMES:
                    return settle(a * c, b * d, operand);
                case DIVIDED:
                    if (c == 0) {
                        return stop(ZERO_FAULT, operand);
                    }
                    return c > 0 ? settle(a * d, b * c, operand) : settle(-a * d, -b * c, operand);
                case REST:
                    if (b != 1 || d != 1) {
                        return stop(WHOLE_FAULT, operand);
                    }
                    return c <= 0 ? stop(ZERO_FAULT, operand) : settle(Math.floorMod(a, c), 1, operand);
                default:
                    return relate(order, Long.compare(a * d, c * b));
            }
        }

        private boolean store(int setPlace, int var) {
            top--;
            if (below[top] != 1) {
                return stop(WHOLE_FAULT, setPlace);
            }
            if (above[top] < text.low[var] || above[top] > text.high[var]) {
                return stop(OVER_FAULT, setPlace);
            }
            next[var] = above[top];
            return true;
        }

        /** The result in least terms takes the place of the first operand. */
        private boolean settle(long numberAbove, long numberBelow, int sign) {
            long common = commonDivisor(numberAbove, numberBelow);
            long a = numberAbove / common;
            long b = numberBelow / common;
            if (a >= BILLION || a <= -BILLION || b >= BILLION) {
                return stop(LARGE_FAULT, sign);
            }
            above[top - 1] = (int) a;
            below[top - 1] = (int) b;
            return true;
        }

        /** What only asks how the first operand stands to the second one. */
        private boolean relate(int order, int relation) {
            if (order == LEAST || order == MOST) {
                if (relation > 0 == (order == LEAST)) {
                    above[top - 1] = above[top];
                    below[top - 1] = below[top];
                }
                return true;
            }
            boolean holds;
            switch (order) {
                case EQUAL:
                    holds = relation == 0;
                    break;
                case UNEQUAL:
                    holds = relation != 0;
                    break;
                case LESS:
                    holds = relation < 0;
                    break;
                case LESS_EQUAL:
                    holds = relation <= 0;
                    break;
                case GREATER:
                    holds = relation > 0;
                    break;
                default:
                    holds = relation >= 0;
                    break;
            }
            above[top - 1] = holds ? 1 : 0;
            below[top - 1] = 1;
            return true;
        }
    }

    /** The states of a text, their commands and branches, and the choices that are told. */
    private static final class Game {
        private static final int SLOTS = 1024;

        int count;
        final int[] numbers = new int[STATES * VARS];
        final int[] sorts = new int[STATES];
        final int[] told = new int[STATES];
        final int[] firstCommand = new int[STATES + 1];
        final int[] textCommand = new int[BRANCHES + 1];
        final int[] multiple = new int[BRANCHES + 1];
        final int[] firstBranch = new int[BRANCHES + 2];
        final int[] goal = new int[BRANCHES];
        /** A branch's chance, times its command's multiple. */
        final int[] weight = new int[BRANCHES];
        int place;
        int faultState;
        private int commandCount;
        private int branchCount;
        private Program text;
        private final Machine machine = new Machine();
        private final int[] slots = new int[SLOTS];
        private final int[] chanceAbove = new int[COMMAND_BRANCHES];
        private final int[] chanceBelow = new int[COMMAND_BRANCHES];

        void clear() {
            count = 0;
            commandCount = 0;
            branchCount = 0;
        }

        boolean hasState(int k) {
            return k >= 0 && k < count;
        }

        /** Where command i of state k stands among all commands; NONE when there is none. */
        int commandAt(int k, int i) {
            if (!hasState(k) || i < 0 || i >= firstCommand[k + 1] - firstCommand[k]) {
                return NONE;
            }
            return firstCommand[k] + i;
        }

        int drawn(int command, int draw) {
            long bound = (long) draw * multiple[command];
            long sum = 0;
            for (int at = firstBranch[command]; at < firstBranch[command + 1]; at++) {
                sum += weight[at];
                if (sum << 31 > bound) {
                    return goal[at];
                }
            }
            return NONE;
        }

        /** Finds all states: 0, or the fault. */
        int discover(Program program) {
            clear();
            text = program;
            machine.text = text;
            Arrays.fill(slots, NONE);
            Arrays.fill(machine.next, 0);
            System.arraycopy(text.init, 0, machine.next, 0, text.vars);
            enter();
            for (int k = 0; k < count && k < STATES; k++) {
                int fault = lookAt(k);
                for (int c = 0; c < text.commands && fault == 0 && sorts[k] != TARGET_STATE; c++) {
                    fault = tryCommand(k, c);
                }
                if (fault != 0) {
                    faultState = k;
                    clear();
                    return fault;
                }
            }
            return 0;
        }

        /** Begins with a state, and tells a target. */
        private int lookAt(int k) {
            firstCommand[k] = commandCount;
            firstCommand[k + 1] = commandCount;
            told[k] = 0;
            machine.enter(numbers, k * VARS);
            if (!machine.run(text.target)) {
                return machineFault();
            }
            sorts[k] = machine.above[0] != 0 ? TARGET_STATE : END_STATE;
            return 0;
        }

        private int machineFault() {
            place = machine.place;
            return machine.fault;
        }

        private int fault(int newFault, int newPlace) {
            place = newPlace;
            return newFault;
        }

        private int tryCommand(int k, int c) {
            if (!machine.run(text.guard[c])) {
                return machineFault();
            }
            if (machine.above[0] == 0) {
                return 0;
            }
            int player = text.player[c];
            if (sorts[k] != END_STATE && sorts[k] != player) {
                return fault(MIXED_FAULT, text.commandPlace[c]);
            }
            sorts[k] = player;
            textCommand[commandCount] = c;
            firstBranch[commandCount] = branchCount;
            int wrong = weighChances(c);
            int chances = text.firstBranch[c + 1] - text.firstBranch[c];
            for (int b = 0; b < chances && wrong == 0; b++) {
                if (chanceAbove[b] != 0) {
                    wrong = follow(c, text.firstBranch[c] + b,
                        multiple[commandCount] / chanceBelow[b] * chanceAbove[b]);
                }
            }
            commandCount++;
            firstBranch[commandCount] = branchCount;
            firstCommand[k + 1] = commandCount;
            return wrong;
        }

        /** Works out the command's chances, their multiple and their sum. */
        private int weighChances(int c) {
            int from = text.firstBranch[c];
            int chances = text.firstBranch[c + 1] - from;
            for (int b = 0; b < chances; b++) {
                if (!machine.run(text.chance[from + b])) {
                    return machineFault();
                }
                chanceAbove[b] = machine.above[0];
                chanceBelow[b] = machine.below[0];
                if (chanceAbove[b] < 0 || chanceAbove[b] > chanceBelow[b]) {
                    return fault(CHANCE_FAULT, text.branchPlace[from + b]);
                }
            }
            long common = 1;
            for (int b = 0; b < chances; b++) {
                common = common / Machine.commonDivisor(common, chanceBelow[b]) * chanceBelow[b];
                if (common >= BILLION) {
                    return fault(LARGE_FAULT, text.commandPlace[c]);
                }
            }
            multiple[commandCount] = (int) common;
            long sum = 0;
            for (int b = 0; b < chances; b++) {
                sum += common / chanceBelow[b] * chanceAbove[b];
            }
            return sum == common ? 0 : fault(CHANCE_FAULT, text.commandPlace[c]);
        }

        /** Adds a branch to the command that is the latest one. */
        private int follow(int c, int branch, int share) {
            machine.beginSets();
            if (!machine.run(text.sets[branch])) {
                return machineFault();
            }
            int to = enter();
            if (to == NONE) {
                return fault(MANY_FAULT, text.branchPlace[branch]);
            }
            for (int at = firstBranch[commandCount]; at < branchCount; at++) {
                if (goal[at] == to) {
                    weight[at] += share;
                    return 0;
                }
            }
            if (branchCount == BRANCHES) {
                return fault(MANY_FAULT, text.commandPlace[c]);
            }
            goal[branchCount] = to;
            weight[branchCount] = share;
            branchCount++;
            return 0;
        }

        /** The state with the machine's next values, known or new; NONE when there is no room. */
        private int enter() {
            int hash = 0;
            for (int v = 0; v < text.vars; v++) {
                hash = hash * 31 + machine.next[v];
            }
            hash ^= hash >>> 15;
            int slot = hash & (SLOTS - 1);
            for (int probe = 0; probe < SLOTS && slots[slot] != NONE; probe++) {
                if (isNext(slots[slot])) {
                    return slots[slot];
                }
                slot = (slot + 1) & (SLOTS - 1);
            }
            if (count == STATES) {
                return NONE;
            }
            slots[slot] = count;
            System.arraycopy(machine.next, 0, numbers, count * VARS, VARS);
            count++;
            return count - 1;
        }

        private boolean isNext(int k) {
            for (int v = 0; v < text.vars; v++) {
                if (numbers[k * VARS + v] != machine.next[v]) {
                    return false;
                }
            }
            return true;
        }
    }

    /** A whole number from 0 on: limbs of thirty bits, the lowest first. */
    private static final class Natural {
        static final int LIMB = 30;
        static final int MASK = (1 << LIMB) - 1;

        int[] limbs = new int[4];
        /** How many limbs there are; the highest one is not 0. */
        int size = 0;

        void reserve(int wanted) {
            if (wanted > limbs.length) {
                limbs = Arrays.copyOf(limbs, Math.max(wanted, 2 * limbs.length));
            }
        }

        private void trim(int from) {
            size = from;
            while (size > 0 && limbs[size - 1] == 0) {
                size--;
            }
        }

        /** Becomes a number below 2^30. */
        void put(int value) {
            limbs[0] = value;
            size = value == 0 ? 0 : 1;
        }

        /** Becomes a number below 2^60. */
        void putLong(long value) {
            limbs[0] = (int) (value & MASK);
            limbs[1] = (int) (value >>> LIMB);
            trim(2);
        }

        void put(Natural other) {
            if (other.size > limbs.length) {
                limbs = new int[Math.max(other.size, 2 * limbs.length)];
            }
            System.arraycopy(other.limbs, 0, limbs, 0, other.size);
            size = other.size;
        }

        boolean isOne() {
            return size == 1 && limbs[0] == 1;
        }

        int bits() {
            return size == 0 ? 0 : LIMB * size - Integer.numberOfLeadingZeros(limbs[size - 1]) + 2;
        }

        static int order(Natural one, Natural other) {
            if (one.size != other.size) {
                return one.size < other.size ? -1 : 1;
            }
            for (int i = one.size - 1; i >= 0; i--) {
                if (one.limbs[i] != other.limbs[i]) {
                    return one.limbs[i] < other.limbs[i] ? -1 : 1;
                }
            }
            return 0;
        }

        /** Adds the other one, factor (below 2^30) times. */
        void add(Natural other, int factor) {
            int most = Math.max(size, other.size);
            reserve(most + 1);
            Arrays.fill(limbs, size, most + 1, 0);
            long carry = 0;
            for (int i = 0; i < other.size; i++) {
                carry += limbs[i] + (long) factor * other.limbs[i];
                limbs[i] = (int) (carry & MASK);
                carry >>>= LIMB;
            }
            for (int i = other.size; i <= most && carry != 0; i++) {
                carry += limbs[i];
                limbs[i] = (int) (carry & MASK);
                carry >>>= LIMB;
            }
            trim(most + 1);
        }

        /** Becomes factor (above 0, below 2^30) times as large. */
        void multiply(int factor) {
            if (factor == 1) {
                return;
            }
            if (size == limbs.length) {
                limbs = Arrays.copyOf(limbs, 2 * size);
            }
            long carry = 0;
            for (int i = 0; i < size; i++) {
                carry += (long) factor * limbs[i];
                limbs[i] = (int) (carry & MASK);
                carry >>>= LIMB;
            }
            if (carry != 0) {
                limbs[size] = (int) carry;
                size++;
            }
        }

        /** Becomes the product of two others. */
        void putProduct(Natural one, Natural other) {
            reserve(one.size + other.size);
            Arrays.fill(limbs, 0, one.size + other.size, 0);
            for (int i = 0; i < one.size; i++) {
                long factor = one.limbs[i];
                long carry = 0;
                for (int j = 0; j < other.size; j++) {
                    carry += limbs[i + j] + factor * other.limbs[j];
                    limbs[i + j] = (int) (carry & MASK);
                    carry >>>= LIMB;
                }
                limbs[i + other.size] = (int) carry;
            }
            trim(one.size + other.size);
        }

        /** Becomes the whole part of the quotient; answers the rest. */
        int divideSmall(int divisor) {
            long rest = 0;
            for (int i = size - 1; i >= 0 && divisor > 0; i--) {
                rest = (rest << LIMB) + limbs[i];
                limbs[i] = (int) (rest / divisor);
                rest %= divisor;
            }
            while (size > 0 && limbs[size - 1] == 0) {
                size--;
            }
            return (int) rest;
        }

        int modulo(int divisor) {
            long rest = 0;
            for (int i = size - 1; i >= 0 && divisor > 0; i--) {
                rest = ((rest << LIMB) + limbs[i]) % divisor;
            }
            return (int) rest;
        }

        /** The bits from one of them on, as many as fit below 2^60. */
        long bitsFrom(int bit) {
            int limb = bit / LIMB;
            int shift = bit % LIMB;
            long found = limb < size ? limbs[limb] >>> shift : 0;
            found += limb + 1 < size ? (long) limbs[limb + 1] << (LIMB - shift) : 0;
            found += limb + 2 < size ? (long) (limbs[limb + 2] & ((1 << shift) - 1)) << (2 * LIMB - shift) : 0;
            return found;
        }

        /** Becomes the rest; the quotient's whole part goes to another one. */
        void divide(Natural divisor, Natural quotient, Natural scaled) {
            quotient.put(0);
            if (divisor.size == 0 || size < divisor.size) {
                return;
            }
            if (divisor.size == 1) {
                quotient.put(this);
                put(quotient.divideSmall(divisor.limbs[0]));
                return;
            }
            // The divisor's highest limb must be half full for a quotient's limb to be guessed well.
            int scale = 1 << (Integer.numberOfLeadingZeros(divisor.limbs[divisor.size - 1]) - 2);
            scaled.put(divisor);
            scaled.multiply(scale);
            multiply(scale);
            reserve(size + 1);
            limbs[size] = 0;
            int places = size - scaled.size + 1;
            quotient.reserve(places);
            for (int at = places - 1; at >= 0; at--) {
                quotient.limbs[at] = takeMultiple(scaled, at);
            }
            quotient.trim(places);
            trim(size);
            divideSmall(scale);
        }

        /** Takes the divisor off, from a limb on, as often as can be: how often. */
        private int takeMultiple(Natural divisor, int at) {
            int n = divisor.size;
            long highest = divisor.limbs[n - 1];
            long two = ((long) limbs[at + n] << LIMB) + limbs[at + n - 1];
            long guess = Math.min(two / highest, MASK);
            long rest = two - guess * highest;
            for (int i = 0; i < 2 && guess * divisor.limbs[n - 2] > (rest << LIMB) + limbs[at + n - 2]; i++) {
                guess--;
                rest += highest;
            }
            long carry = 0;
            for (int i = 0; i < n; i++) {
                carry += limbs[at + i] - guess * divisor.limbs[i];
                limbs[at + i] = (int) (carry & MASK);
                carry >>= LIMB;
            }
            carry += limbs[at + n];
            limbs[at + n] = 0;
            if (carry >= 0) {
                return (int) guess;
            }
            carry = 0;
            for (int i = 0; i < n; i++) {
                carry += limbs[at + i] + divisor.limbs[i];
                limbs[at + i] = (int) (carry & MASK);
                carry >>= LIMB;
            }
            return (int) guess - 1;
        }

        /** Both become sums of their multiples, which the caller knows to be 0 or more. */
        static void combine(Natural one, Natural other, long[] factors) {
            int most = one.size;
            other.reserve(most);
            Arrays.fill(other.limbs, other.size, most, 0);
            long carry = 0;
            long otherCarry = 0;
            for (int i = 0; i < most; i++) {
                long u = one.limbs[i];
                long v = other.limbs[i];
                carry += factors[0] * u + factors[1] * v;
                otherCarry += factors[2] * u + factors[3] * v;
                one.limbs[i] = (int) (carry & MASK);
                other.limbs[i] = (int) (otherCarry & MASK);
                carry >>= LIMB;
                otherCarry >>= LIMB;
            }
            one.trim(most);
            other.trim(most);
        }
    }

    /** A fraction: above / (below times a small number), not always in least terms. */
    private static final class Fraction {
        final Natural above = new Natural();
        final Natural below = new Natural();
        int times = 1;

        void put(int whole) {
            above.put(whole);
            below.put(1);
            times = 1;
        }

        void put(Fraction other) {
            above.put(other.above);
            below.put(other.below);
            times = other.times;
        }
    }

    /** A fraction for each state. */
    private static final class Fractions {
        Fraction[] rows = new Fraction[0];
        boolean known = false;

        void reserve(int count) {
            if (count > rows.length) {
                Fraction[] larger = new Fraction[Math.min(STATES, Math.max(count, 2 * rows.length))];
                for (int i = 0; i < larger.length; i++) {
                    larger[i] = i < rows.length ? rows[i] : new Fraction();
                }
                rows = larger;
            }
        }

        /** 1 for targets, 0 for others. */
        void begin(Game game) {
            reserve(game.count);
            for (int k = 0; k < game.count; k++) {
                rows[k].put(game.sorts[k] == TARGET_STATE ? 1 : 0);
            }
        }
    }

    /** Works with fractions: brings them to least terms, compares them, and weighs commands. */
    private static final class Scales {
        private final Natural left = new Natural();
        private final Natural right = new Natural();
        private final Natural quotient = new Natural();
        private final Natural scaled = new Natural();
        private final Natural part = new Natural();
        private final Natural product = new Natural();
        private final long[] factors = new long[4];
        private final Natural sumPart = new Natural();
        private final Natural termPart = new Natural();
        private Fraction best = new Fraction();
        private Fraction trial = new Fraction();

        /** How often the divisor is in a number, below 2^30. */
        int wholePart(Natural dividend, Natural divisor) {
            dividend.divide(divisor, quotient, scaled);
            return quotient.size == 0 ? 0 : quotient.limbs[0];
        }

        /** The greatest common divisor of two numbers above 0; it is not kept for long. */
        private Natural commonDivisor(Natural one, Natural other) {
            Natural larger = left;
            Natural smaller = right;
            boolean ordered = Natural.order(one, other) >= 0;
            larger.put(ordered ? one : other);
            smaller.put(ordered ? other : one);
            for (int step = 0; step < ENDLESS && smaller.size > 0; step++) {
                if (larger.size < 3) {
                    larger.putLong(Machine.commonDivisor(larger.bitsFrom(0), smaller.bitsFrom(0)));
                    return larger;
                }
                int bit = larger.bits() - 2 * Natural.LIMB;
                if (findFactors(larger.bitsFrom(bit), smaller.bitsFrom(bit))) {
                    Natural.combine(larger, smaller, factors);
                } else {
                    larger.divide(smaller, quotient, scaled);
                    Natural kept = larger;
                    larger = smaller;
                    smaller = kept;
                }
            }
            return larger;
        }

        /** Finds what many steps of Euclid's come to, as far as the highest bits can tell them. */
        private boolean findFactors(long larger, long smaller) {
            long x = larger;
            long y = smaller;
            long a = 1;
            long b = 0;
            long c = 0;
            long d = 1;
            for (int step = 0; step < 100 && y + c != 0 && y + d != 0; step++) {
                long q = (x + a) / (y + c);
                if (q != (x + b) / (y + d) || q > Natural.MASK) {
                    break;
                }
                long nextC = a - q * c;
                long nextD = b - q * d;
                if (Math.abs(nextC) > Natural.MASK || Math.abs(nextD) > Natural.MASK) {
                    break;
                }
                long nextY = x - q * y;
                a = c;
                b = d;
                x = y;
                c = nextC;
                d = nextD;
                y = nextY;
            }
            factors[0] = a;
            factors[1] = b;
            factors[2] = c;
            factors[3] = d;
            return b != 0;
        }

        /** Brings a fraction to least terms. */
        void reduce(Fraction fraction) {
            fraction.below.multiply(fraction.times);
            fraction.times = 1;
            if (fraction.above.size == 0) {
                fraction.below.put(1);
                return;
            }
            Natural common = commonDivisor(fraction.above, fraction.below);
            if (!common.isOne()) {
                fraction.above.divide(common, quotient, scaled);
                fraction.above.put(quotient);
                fraction.below.divide(common, quotient, scaled);
                fraction.below.put(quotient);
            }
        }

        int order(Fraction one, Fraction other) {
            if (Natural.order(one.below, other.below) == 0) {
                part.put(one.above);
                product.put(other.above);
            } else {
                part.putProduct(one.above, other.below);
                product.putProduct(other.above, one.below);
            }
            part.multiply(other.times);
            product.multiply(one.times);
            return Natural.order(part, product);
        }

        /** The worth of a command by the numbers of all states. */
        void weigh(Game game, int command, Fractions numbers, Fraction worth) {
            worth.put(0);
            worth.times = game.multiple[command];
            for (int at = game.firstBranch[command]; at < game.firstBranch[command + 1]; at++) {
                Fraction term = numbers.rows[game.goal[at]];
                int share = game.weight[at];
                if (term.above.size == 0) {
                    continue;
                }
                if (Natural.order(worth.below, term.below) == 0) {
                    worth.above.add(term.above, share);
                    continue;
                }
                Natural common = commonDivisor(worth.below, term.below);
                sumPart.put(worth.below);
                sumPart.divide(common, quotient, scaled);
                sumPart.put(quotient);
                termPart.put(term.below);
                termPart.divide(common, quotient, scaled);
                termPart.put(quotient);
                product.putProduct(worth.above, termPart);
                worth.above.put(product);
                product.putProduct(term.above, sumPart);
                worth.above.add(product, share);
                product.putProduct(worth.below, termPart);
                worth.below.put(product);
            }
        }

        /** The first command with the best worth, of those from one on up to another; its worth is kept. */
        int pick(Game game, int from, int to, boolean most, Fractions numbers) {
            weigh(game, from, numbers, best);
            int picked = from;
            for (int command = from + 1; command < to; command++) {
                weigh(game, command, numbers, trial);
                int relation = order(trial, best);
                if (most ? relation > 0 : relation < 0) {
                    Fraction kept = best;
                    best = trial;
                    trial = kept;
                    picked = command;
                }
            }
            return picked;
        }

        /** How the worth that was kept stands to a fraction. */
        int orderOfPicked(Fraction fraction) {
            return order(best, fraction);
        }

        /** One more move for all states; whether no number has too many bits. */
        boolean move(Game game, Fractions before, Fractions after) {
            after.reserve(game.count);
            for (int k = 0; k < game.count; k++) {
                int from = game.firstCommand[k];
                int to = game.firstCommand[k + 1];
                if (from == to) {
                    after.rows[k].put(before.rows[k]);
                    continue;
                }
                pick(game, from, to, game.sorts[k] == MAX_STATE, before);
                if (!fits(best)) {
                    return false;
                }
                after.rows[k].put(best);
            }
            return true;
        }

        /** Folds a fraction of 0 .. 1; it is brought to least terms only when it is too long. */
        private boolean fits(Fraction fraction) {
            fraction.below.multiply(fraction.times);
            fraction.times = 1;
            if (fraction.above.size == 0) {
                fraction.put(0);
            } else if (Natural.order(fraction.above, fraction.below) == 0) {
                fraction.put(1);
            } else if (fraction.below.bits() > BITS) {
                reduce(fraction);
            }
            return fraction.below.bits() <= BITS;
        }
    }

    /** Solves systems of equations with whole numbers exactly, by their residues. */
    private static final class Residues {
        static final int WIDTH = UNKNOWNS + 1;
        /** So many that enough are left when all that could divide a determinant are passed over. */
        private static final int[] PRIMES = {
            1073741789, 1073741783, 1073741741, 1073741723, 1073741719, 1073741717, 1073741689,
            1073741671, 1073741663, 1073741651, 1073741621, 1073741567, 1073741561, 1073741527,
            1073741503, 1073741477, 1073741467, 1073741441, 1073741419, 1073741399, 1073741387,
            1073741381, 1073741371, 1073741329, 1073741311, 1073741309, 1073741287, 1073741237,
            1073741213, 1073741197, 1073741189, 1073741173, 1073741101, 1073741077, 1073741047,
            1073740963
        };

        /** Each row: the factors of the unknown numbers, and what their sum is. */
        final int[] entries = new int[UNKNOWNS * WIDTH];
        /** The unknown numbers times the determinant, and behind them the determinant. */
        final Natural[] results = new Natural[WIDTH];
        private final int[] work = new int[UNKNOWNS * WIDTH];
        private final int[] inverses = new int[UNKNOWNS];
        private final int[] columns = new int[WIDTH];
        private final int[] residues = new int[WIDTH];
        private final Natural modulus = new Natural();

        Residues() {
            for (int i = 0; i < WIDTH; i++) {
                results[i] = new Natural();
            }
        }

        /** Solves the first rows, of which all results are from 0 on and below 2^bits. */
        void settle(int rows, int bits) {
            modulus.put(1);
            for (int i = 0; i <= rows; i++) {
                results[i].put(0);
            }
            for (int i = 0; i < PRIMES.length && modulus.bits() <= bits; i++) {
                if (eliminate(rows, PRIMES[i])) {
                    substitute(rows, PRIMES[i]);
                    combine(rows, PRIMES[i]);
                }
            }
        }

        /** Brings the rows to a triangle; false when the prime divides the determinant. */
        private boolean eliminate(int rows, int prime) {
            for (int i = 0; i < rows * WIDTH; i++) {
                work[i] = entries[i] < 0 ? entries[i] + prime : entries[i];
            }
            long determinant = 1;
            for (int k = 0; k < rows; k++) {
                int pivot = k;
                while (pivot < rows && work[pivot * WIDTH + k] == 0) {
                    pivot++;
                }
                if (pivot == rows) {
                    return false;
                }
                if (pivot > k) {
                    swapRows(pivot * WIDTH, k * WIDTH);
                    determinant = prime - determinant;
                }
                determinant = determinant * work[k * WIDTH + k] % prime;
                inverses[k] = inverse(work[k * WIDTH + k], prime);
                clearBelow(k, rows, prime);
            }
            residues[rows] = (int) determinant;
            return true;
        }

        private void swapRows(int one, int other) {
            for (int j = 0; j < WIDTH; j++) {
                int kept = work[one + j];
                work[one + j] = work[other + j];
                work[other + j] = kept;
            }
        }

        private void clearBelow(int k, int rows, int prime) {
            int filled = 0;
            for (int j = k + 1; j < WIDTH; j++) {
                if (work[k * WIDTH + j] != 0) {
                    columns[filled++] = j;
                }
            }
            for (int i = k + 1; i < rows; i++) {
                long entry = work[i * WIDTH + k];
                if (entry == 0) {
                    continue;
                }
                long factor = prime - entry * inverses[k] % prime;
                for (int c = 0; c < filled; c++) {
                    int j = columns[c];
                    work[i * WIDTH + j] = (int) ((work[i * WIDTH + j] + factor * work[k * WIDTH + j]) % prime);
                }
            }
        }

        /** Finds the unknown numbers from the last one on, and takes the determinant into them. */
        private void substitute(int rows, int prime) {
            for (int i = rows - 1; i >= 0; i--) {
                long sum = work[i * WIDTH + UNKNOWNS];
                for (int j = i + 1; j < rows; j++) {
                    long factor = work[i * WIDTH + j];
                    if (factor != 0) {
                        sum = (sum + factor * (prime - residues[j])) % prime;
                    }
                }
                residues[i] = (int) (sum * inverses[i] % prime);
            }
            for (int i = 0; i < rows; i++) {
                residues[i] = (int) ((long) residues[i] * residues[rows] % prime);
            }
        }

        /** Makes the results fit the residues by one more prime. */
        private void combine(int rows, int prime) {
            long inverse = inverse(modulus.modulo(prime), prime);
            for (int i = 0; i <= rows; i++) {
                long missing = (long) residues[i] + prime - results[i].modulo(prime);
                results[i].add(modulus, (int) (missing % prime * inverse % prime));
            }
            modulus.multiply(prime);
        }

        private static int inverse(int value, int prime) {
            long a = value;
            long b = prime;
            long x = 1;
            long y = 0;
            for (int step = 0; step < 100 && b != 0; step++) {
                long q = a / b;
                long rest = a - q * b;
                long z = x - q * y;
                a = b;
                b = rest;
                x = y;
                y = z;
            }
            return (int) (x < 0 ? x + prime : x);
        }
    }

    /** Works out values, and the ranks and choices that go with them. */
    private static final class Solver {
        /** Rounds in which all states may take another command; nearly all texts need a few of them. */
        private static final int WIDE_ROUNDS = 100;
        private static final long DRAW_FACTOR = 6364136223846793005L;
        private static final long DRAW_STEP = 1442695040888963407L;

        final Scales scales = new Scales();
        final int[] ranks = new int[STATES];
        final int[] choices = new int[STATES];
        private final Game game;
        private final Residues system = new Residues();
        /** Each state's commands that are left: from low on, up to high. */
        private final int[] low = new int[STATES];
        private final int[] high = new int[STATES];
        /** Which of the unknown states a state is; NONE when it is none. */
        private final int[] slot = new int[STATES];
        private final int[] unknown = new int[UNKNOWNS];
        private final int[] chosen = new int[UNKNOWNS];
        private int unknowns;
        /** Commands that are not chosen, min's in front, each times UNKNOWNS, and its state's slot. */
        private int[] others = new int[0];
        private int otherCount;
        private int minOthers;
        private long drawn;
        private final boolean[] attains = new boolean[BRANCHES + 1];
        private final int[] probe = new int[STATES];
        private final Fraction worth = new Fraction();

        Solver(Game ofGame) {
            game = ofGame;
        }

        /**
         * Works out the numbers when a player (0: none) keeps to the choices that are told: 0, or
         * the refusal. Choices of min's are bettered until none can be, then those of max's once,
         * and so on. Max begins with choices that come to a target, and leaves one only for a
         * greater worth, so no unknown state ever loses its way to a target, and the equations of
         * all choices that are met have one solution. No choices of both players come back, so the
         * rounds have an end. It is mostly near while all states take their best commands at once,
         * but there are texts that count through millions of choices so; after some rounds, one
         * state alone takes a better command in each.
         */
        int workOut(int keeper, Fractions numbers) {
            numbers.known = false;
            leaveCommands(keeper);
            if (!findUnknown()) {
                return MANY_FAULT;
            }
            if (weights() > BITS) {
                return LARGE_FAULT;
            }
            numbers.begin(game);
            boolean better = true;
            for (int round = 0; round < WIDE_ROUNDS && better; round++) {
                evaluate(numbers);
                better = improve(MIN_STATE, numbers) || improve(MAX_STATE, numbers);
            }
            if (better) {
                listOthers();
            }
            for (long round = 0; round < ROUNDS && better; round++) {
                evaluate(numbers);
                better = improveOne(numbers);
            }
            numbers.known = true;
            return 0;
        }

        private void leaveCommands(int keeper) {
            for (int k = 0; k < game.count; k++) {
                boolean kept = keeper != 0 && game.sorts[k] == keeper;
                low[k] = game.firstCommand[k] + (kept ? game.told[k] : 0);
                high[k] = kept ? low[k] + 1 : game.firstCommand[k + 1];
            }
        }

        /** Finds the unknown states by the ways to a target; false when there are too many. */
        private boolean findUnknown() {
            unknowns = 0;
            Arrays.fill(slot, NONE);
            boolean more = true;
            for (int sweep = 0; sweep <= STATES && more; sweep++) {
                more = false;
                for (int k = game.count - 1; k >= 0; k--) {
                    int command = slot[k] == NONE ? wayFrom(k) : NONE;
                    if (command == NONE) {
                        continue;
                    }
                    if (unknowns == UNKNOWNS) {
                        return false;
                    }
                    slot[k] = unknowns;
                    unknown[unknowns] = k;
                    chosen[unknowns] = command;
                    unknowns++;
                    more = true;
                }
            }
            return true;
        }

        /** A command by which the state comes to what is known to come to a target, whatever min does. */
        private int wayFrom(int k) {
            boolean most = game.sorts[k] == MAX_STATE;
            for (int command = low[k]; command < high[k]; command++) {
                if (comesOn(command) == most) {
                    return most ? command : NONE;
                }
            }
            return most || low[k] == high[k] ? NONE : low[k];
        }

        private boolean comesOn(int command) {
            for (int at = game.firstBranch[command]; at < game.firstBranch[command + 1]; at++) {
                int to = game.goal[at];
                if (slot[to] != NONE || game.sorts[to] == TARGET_STATE) {
                    return true;
                }
            }
            return false;
        }

        private int weights() {
            int sum = 0;
            for (int i = 0; i < unknowns; i++) {
                int greatest = 1;
                for (int command = low[unknown[i]]; command < high[unknown[i]]; command++) {
                    greatest = Math.max(greatest, game.multiple[command]);
                }
                sum += 33 - Integer.numberOfLeadingZeros(greatest - 1);
            }
            return sum;
        }

        /** Works out the numbers when both players keep to what is chosen. */
        private void evaluate(Fractions numbers) {
            Arrays.fill(system.entries, 0);
            int bits = 0;
            for (int i = 0; i < unknowns; i++) {
                int row = i * Residues.WIDTH;
                int command = chosen[i];
                int multiple = game.multiple[command];
                system.entries[row + i] = multiple;
                // A determinant of such rows is at most the product of the multiples.
                bits += 32 - Integer.numberOfLeadingZeros(multiple);
                for (int at = game.firstBranch[command]; at < game.firstBranch[command + 1]; at++) {
                    int to = game.goal[at];
                    if (slot[to] != NONE) {
                        system.entries[row + slot[to]] -= game.weight[at];
                    } else if (game.sorts[to] == TARGET_STATE) {
                        system.entries[row + UNKNOWNS] += game.weight[at];
                    }
                }
            }
            system.settle(unknowns, bits);
            for (int i = 0; i < unknowns; i++) {
                Fraction row = numbers.rows[unknown[i]];
                row.above.put(system.results[i]);
                row.below.put(system.results[unknowns]);
            }
        }

        /** Takes the best command in each state of a player's where it is better than what is chosen. */
        private boolean improve(int player, Fractions numbers) {
            boolean better = false;
            for (int i = 0; i < unknowns; i++) {
                int k = unknown[i];
                if (game.sorts[k] == player && high[k] - low[k] > 1) {
                    int picked = scales.pick(game, low[k], high[k], player == MAX_STATE, numbers);
                    if (scales.orderOfPicked(numbers.rows[k]) != 0) {
                        chosen[i] = picked;
                        better = true;
                    }
                }
            }
            return better;
        }

        /** Lists the commands that are not chosen: min's, then max's. */
        private void listOthers() {
            if (others.length == 0) {
                others = new int[UNKNOWNS * COMMANDS];
            }
            otherCount = 0;
            drawn = 0;
            addOthers(MIN_STATE);
            minOthers = otherCount;
            addOthers(MAX_STATE);
            mix(0, minOthers);
            mix(minOthers, otherCount);
        }

        private void addOthers(int player) {
            for (int i = 0; i < unknowns; i++) {
                int k = unknown[i];
                for (int command = low[k]; command < high[k] && game.sorts[k] == player; command++) {
                    if (command != chosen[i]) {
                        others[otherCount++] = command * UNKNOWNS + i;
                    }
                    addToDraw(command);
                }
            }
        }

        /** Each game is mixed in its own way, so that no text can be made to fit a way that is known. */
        private void addToDraw(int command) {
            for (int at = game.firstBranch[command]; at < game.firstBranch[command + 1]; at++) {
                drawn = drawn * DRAW_FACTOR + game.weight[at];
                drawn = drawn * DRAW_FACTOR + game.goal[at];
            }
        }

        /** Mixes the other commands from one place on, up to another. */
        private void mix(int from, int to) {
            for (int last = to - 1; last > from; last--) {
                drawn = drawn * DRAW_FACTOR + DRAW_STEP;
                int place = from + (int) ((drawn >>> 33) % (last - from + 1));
                int kept = others[last];
                others[last] = others[place];
                others[place] = kept;
            }
        }

        /**
         * Takes the first of the other commands that is better than what is chosen in its state.
         * Those in front of it, which were not better, are mixed anew, so that no text can count
         * by their order: by this rule (Kalai's, for games Ludwig's) the rounds that are to be
         * expected grow less than exponentially with the states, whatever the text.
         */
        private boolean improveOne(Fractions numbers) {
            for (int at = 0; at < otherCount; at++) {
                int command = others[at] / UNKNOWNS;
                int i = others[at] % UNKNOWNS;
                scales.weigh(game, command, numbers, worth);
                if (scales.order(worth, numbers.rows[unknown[i]]) == (at < minOthers ? -1 : 1)) {
                    others[at] = chosen[i] * UNKNOWNS + i;
                    chosen[i] = command;
                    mix(0, Math.min(at + 1, minOthers));
                    mix(minOthers, at + 1);
                    return true;
                }
            }
            return false;
        }

        /** Ranks and choices by the values that were worked out. */
        void rankAndChoose(Fractions values) {
            attain(values);
            fillRanks(values, ranks);
            for (int k = 0; k < game.count; k++) {
                int first = game.firstCommand[k];
                choices[k] = first == game.firstCommand[k + 1] ? NONE : 0;
                boolean greater = game.sorts[k] == MAX_STATE;
                boolean found = choices[k] == NONE || greater && ranks[k] == NONE;
                for (int command = first; command < game.firstCommand[k + 1] && !found; command++) {
                    found = attains[command] && (!greater || leadsBelow(command, ranks[k], ranks));
                    choices[k] = command - first;
                }
            }
        }

        /** Marks the commands that attain their states' values; whether these are what they must be. */
        private boolean attain(Fractions values) {
            boolean right = true;
            for (int k = 0; k < game.count; k++) {
                Fraction value = values.rows[k];
                boolean met = game.firstCommand[k] == game.firstCommand[k + 1];
                if (met) {
                    worth.put(game.sorts[k] == TARGET_STATE ? 1 : 0);
                    right &= scales.order(worth, value) == 0;
                }
                int wrong = game.sorts[k] == MAX_STATE ? 1 : -1;
                for (int command = game.firstCommand[k]; command < game.firstCommand[k + 1]; command++) {
                    scales.weigh(game, command, values, worth);
                    int relation = scales.order(worth, value);
                    attains[command] = relation == 0;
                    met |= relation == 0;
                    right &= relation != wrong;
                }
                right &= met;
            }
            return right;
        }

        private void fillRanks(Fractions values, int[] found) {
            for (int k = 0; k < game.count; k++) {
                found[k] = game.sorts[k] == TARGET_STATE ? 0 : NONE;
            }
            boolean more = true;
            for (int round = 1; round <= STATES && more; round++) {
                more = false;
                for (int k = 0; k < game.count; k++) {
                    if (found[k] == NONE && values.rows[k].above.size > 0 && earns(k, round, found)) {
                        found[k] = round;
                        more = true;
                    }
                }
            }
        }

        private boolean earns(int k, int round, int[] found) {
            boolean one = game.sorts[k] == MAX_STATE;
            for (int command = game.firstCommand[k]; command < game.firstCommand[k + 1]; command++) {
                if (attains[command] && leadsBelow(command, round, found) == one) {
                    return one;
                }
            }
            return !one;
        }

        private boolean leadsBelow(int command, int round, int[] found) {
            for (int at = game.firstBranch[command]; at < game.firstBranch[command + 1]; at++) {
                int rank = found[game.goal[at]];
                if (rank != NONE && rank < round) {
                    return true;
                }
            }
            return false;
        }

        /** Whether the values are what they must be, and no lesser ones are. */
        boolean holds(Fractions values) {
            boolean right = attain(values);
            fillRanks(values, probe);
            for (int k = 0; k < game.count; k++) {
                boolean ranked = values.rows[k].above.size == 0 || probe[k] != NONE;
                right &= ranked && probe[k] == ranks[k];
            }
            return right;
        }
    }
}
