import java.math.BigInteger;
import java.util.ArrayList;
import java.util.HashMap;
import java.util.HashSet;
import java.util.List;
import java.util.Map;
import java.util.Set;

/**
 * The document once more, as plain as can be, with trees, recursion and BigInteger: what the tests
 * hold the class against. Values are not worked out here; they are judged by what makes them right.
 */
final class Model {
    static final BigInteger LIMIT = BigInteger.valueOf(1000000000);

    /** A fault with its place. */
    static final class Fault extends RuntimeException {
        private static final long serialVersionUID = 1;
        final int number;
        final int place;

        Fault(int number, int place) {
            super(null, null, false, false);
            this.number = number;
            this.place = place;
        }
    }

    /** A fraction in least terms, of any size. */
    static final class Ratio implements Comparable<Ratio> {
        static final Ratio ZERO = of(0);
        static final Ratio ONE = of(1);
        final BigInteger above;
        final BigInteger below;

        Ratio(BigInteger a, BigInteger b) {
            if (b.signum() < 0) {
                a = a.negate();
                b = b.negate();
            }
            BigInteger g = a.gcd(b);
            above = a.divide(g);
            below = b.divide(g);
        }

        static Ratio of(long whole) {
            return new Ratio(BigInteger.valueOf(whole), BigInteger.ONE);
        }

        static Ratio parse(String text) {
            int slash = text.indexOf('/');
            return slash < 0 ? new Ratio(new BigInteger(text), BigInteger.ONE)
                : new Ratio(new BigInteger(text.substring(0, slash)), new BigInteger(text.substring(slash + 1)));
        }

        Ratio plus(Ratio o) {
            return new Ratio(above.multiply(o.below).add(o.above.multiply(below)), below.multiply(o.below));
        }

        Ratio minus(Ratio o) {
            return plus(new Ratio(o.above.negate(), o.below));
        }

        Ratio times(Ratio o) {
            return new Ratio(above.multiply(o.above), below.multiply(o.below));
        }

        boolean isWhole() {
            return below.equals(BigInteger.ONE);
        }

        boolean isZero() {
            return above.signum() == 0;
        }

        @Override
        public int compareTo(Ratio o) {
            return above.multiply(o.below).compareTo(o.above.multiply(below));
        }

        @Override
        public String toString() {
            return isWhole() ? above.toString() : above + "/" + below;
        }
    }

    static final class Word {
        final String text;
        final char sort; // n name, d number, k keyword, s sign, e end, x no word
        final int place;

        Word(String text, char sort, int place) {
            this.text = text;
            this.sort = sort;
            this.place = place;
        }
    }

    static final Set<String> KEYWORDS = Set.of("const", "var", "bool", "formula", "max", "min", "init",
        "stay", "target", "true", "false", "least", "most");
    static final String[] SIGNS = {"..", "->", "!=", "<=", ">=", "<", ">", "=", "+", "-", "*", "/", "%",
        "&", "|", "!", "?", ":", ";", ",", "(", ")", "'"};

    static boolean letter(char c) {
        return c >= 'A' && c <= 'Z' || c >= 'a' && c <= 'z';
    }

    static boolean digit(char c) {
        return c >= '0' && c <= '9';
    }

    static List<Word> words(String tape) {
        List<Word> found = new ArrayList<>();
        int i = 0;
        while (i < tape.length()) {
            char c = tape.charAt(i);
            if (c == 9 || c == 10 || c == 13 || c == 32) {
                i++;
            } else if (c == '#') {
                while (i < tape.length() && tape.charAt(i) != 10) {
                    i++;
                }
            } else {
                Word word = word(tape, i);
                found.add(word);
                i += Math.max(1, word.text.length());
            }
        }
        found.add(new Word("", 'e', tape.length()));
        return found;
    }

    static Word word(String tape, int from) {
        int i = from;
        if (letter(tape.charAt(i))) {
            while (i < tape.length() && (letter(tape.charAt(i)) || digit(tape.charAt(i)) || tape.charAt(i) == '_')) {
                i++;
            }
            String name = tape.substring(from, i);
            return new Word(name, name.length() > 40 ? 'x' : KEYWORDS.contains(name) ? 'k' : 'n', from);
        }
        if (digit(tape.charAt(i))) {
            while (i < tape.length() && digit(tape.charAt(i))) {
                i++;
            }
            return new Word(tape.substring(from, i), i - from > 9 ? 'x' : 'd', from);
        }
        for (String sign : SIGNS) {
            if (tape.startsWith(sign, from)) {
                return new Word(sign, 's', from);
            }
        }
        return new Word("", 'x', from);
    }

    /** A part of a rule: op is the sign, "neg", "not", "num", "name", "truth", "least", "most", "?". */
    static final class Node {
        final String op;
        final int place;
        int first; // where the first word is
        final List<Node> parts = new ArrayList<>();
        String name;
        Ratio number;
        boolean truth;
        boolean isTruth;
        Symbol symbol;

        Node(String op, int place, int first, Node... parts) {
            this.op = op;
            this.place = place;
            this.first = first;
            this.parts.addAll(List.of(parts));
        }
    }

    static final class SetTo {
        Word name;
        int place;
        Node rule;
        int var;
    }

    static final class Branch {
        Node chance;
        List<SetTo> sets = new ArrayList<>();
    }

    static final class Item {
        Word head;
        Word name;
        Node rule;
        Node last;
        Node init;
        boolean bool;
        List<Branch> branches = new ArrayList<>();
    }

    static final class Symbol {
        char sort; // c f v
        int index;
        boolean isTruth;
        Node rule;
        Ratio number;
        boolean truth;
    }

    static final class Var {
        boolean bool;
        int low;
        int high = 1;
        int init;
    }

    // ---------------------------------------------------------------- reading

    private List<Word> words;
    private int at;
    private int depth;
    List<Item> items = new ArrayList<>();

    private Word now() {
        return words.get(at);
    }

    private boolean is(String text) {
        Word w = now();
        return (w.sort == 's' || w.sort == 'k') && w.text.equals(text);
    }

    private Fault wrong() {
        return new Fault(1, now().place);
    }

    private Word take(String text) {
        if (!is(text)) {
            throw wrong();
        }
        return words.get(at++);
    }

    private Word takeName() {
        if (now().sort != 'n') {
            throw wrong();
        }
        return words.get(at++);
    }

    private void deeper() {
        if (depth == 40) {
            throw wrong();
        }
        depth++;
    }

    private void readText() {
        while (now().sort != 'e') {
            items.add(readItem());
        }
    }

    private Item readItem() {
        Item item = new Item();
        item.head = now();
        if (is("const") || is("formula")) {
            at++;
            item.name = takeName();
            take("=");
            item.rule = rule();
        } else if (is("var")) {
            at++;
            item.name = takeName();
            take(":");
            if (is("bool")) {
                at++;
                item.bool = true;
            } else {
                item.rule = rule();
                take("..");
                item.last = rule();
            }
            if (is("init")) {
                at++;
                item.init = rule();
            }
        } else if (is("target")) {
            at++;
            item.rule = rule();
        } else if (is("max") || is("min")) {
            at++;
            item.rule = rule();
            take("->");
            item.branches.add(readBranch());
            while (is("+")) {
                at++;
                item.branches.add(readBranch());
            }
        } else {
            throw wrong();
        }
        take(";");
        return item;
    }

    private Branch readBranch() {
        Branch branch = new Branch();
        branch.chance = or();
        take(":");
        if (is("stay")) {
            at++;
            return branch;
        }
        branch.sets.add(readSet());
        while (is("&")) {
            at++;
            branch.sets.add(readSet());
        }
        return branch;
    }

    private SetTo readSet() {
        SetTo set = new SetTo();
        if (!is("(")) {
            throw wrong();
        }
        deeper();
        set.place = take("(").place;
        set.name = takeName();
        take("'");
        take("=");
        set.rule = rule();
        take(")");
        depth--;
        return set;
    }

    private Node rule() {
        int first = now().place;
        Node a = or();
        if (!is("?")) {
            return a;
        }
        deeper();
        int place = take("?").place;
        Node b = rule();
        take(":");
        Node c = rule();
        depth--;
        return new Node("?", place, first, a, b, c);
    }

    private Node or() {
        int first = now().place;
        Node a = and();
        while (is("|")) {
            int place = take("|").place;
            a = new Node("|", place, first, a, and());
        }
        return a;
    }

    private Node and() {
        int first = now().place;
        Node a = not();
        while (is("&")) {
            int place = take("&").place;
            a = new Node("&", place, first, a, not());
        }
        return a;
    }

    private Node not() {
        int first = now().place;
        if (is("!")) {
            deeper();
            at++;
            Node a = not();
            depth--;
            return new Node("not", first, first, a);
        }
        Node a = sum();
        if (is("=") || is("!=") || is("<") || is("<=") || is(">") || is(">=")) {
            Word sign = words.get(at++);
            return new Node(sign.text, sign.place, first, a, sum());
        }
        return a;
    }

    private Node sum() {
        int first = now().place;
        Node a = product();
        while (is("+") || is("-")) {
            Word sign = words.get(at++);
            a = new Node(sign.text, sign.place, first, a, product());
        }
        return a;
    }

    private Node product() {
        int first = now().place;
        Node a = sign();
        while (is("*") || is("/") || is("%")) {
            Word sign = words.get(at++);
            a = new Node(sign.text, sign.place, first, a, sign());
        }
        return a;
    }

    private Node sign() {
        Word w = now();
        if (is("-")) {
            deeper();
            at++;
            Node a = sign();
            depth--;
            return new Node("neg", w.place, w.place, a);
        }
        if (w.sort == 'd') {
            at++;
            Node n = new Node("num", w.place, w.place);
            n.number = Ratio.of(Long.parseLong(w.text));
            return n;
        }
        if (w.sort == 'n') {
            at++;
            Node n = new Node("name", w.place, w.place);
            n.name = w.text;
            return n;
        }
        if (is("true") || is("false")) {
            at++;
            Node n = new Node("truth", w.place, w.place);
            n.truth = w.text.equals("true");
            return n;
        }
        if (is("(")) {
            deeper();
            at++;
            Node n = rule();
            take(")");
            depth--;
            n.first = w.place;
            return n;
        }
        if (is("least") || is("most")) {
            at++;
            if (!is("(")) {
                throw wrong();
            }
            deeper();
            at++;
            Node n = new Node(w.text, w.place, w.place);
            n.parts.add(rule());
            while (is(",")) {
                at++;
                n.parts.add(rule());
            }
            take(")");
            depth--;
            return n;
        }
        throw wrong();
    }

    // ---------------------------------------------------------------- looking at items

    Map<String, Symbol> names = new HashMap<>();
    List<Var> vars = new ArrayList<>();
    List<Item> commands = new ArrayList<>();
    int named;
    Node target;

    /** Compiles a tape, or throws a Fault. */
    static Model compile(String tape) {
        Model model = new Model();
        model.words = words(tape);
        model.readText();
        for (Item item : model.items) {
            model.lookAt(item);
        }
        if (model.target == null) {
            throw new Fault(10, tape.length());
        }
        return model;
    }

    private void lookAt(Item item) {
        switch (item.head.text) {
            case "const":
            case "formula":
                lookAtNamed(item);
                break;
            case "var":
                lookAtVar(item);
                break;
            case "target":
                if (target != null) {
                    throw new Fault(4, item.head.place);
                }
                whole(item.rule, false, true);
                target = item.rule;
                break;
            default:
                lookAtCommand(item);
                break;
        }
    }

    private void newName(Item item) {
        if (names.containsKey(item.name.text)) {
            throw new Fault(2, item.name.place);
        }
    }

    private void lookAtNamed(Item item) {
        if (named == 60) {
            throw new Fault(5, item.head.place);
        }
        newName(item);
        Symbol symbol = new Symbol();
        symbol.sort = item.head.text.charAt(0);
        symbol.index = named;
        look(item.rule, symbol.sort == 'c');
        symbol.isTruth = item.rule.isTruth;
        symbol.rule = item.rule;
        if (symbol.sort == 'c') {
            Object value = new Sight(null).value(item.rule);
            if (value instanceof Ratio) {
                symbol.number = (Ratio) value;
            } else {
                symbol.truth = (Boolean) value;
            }
        }
        named++;
        names.put(item.name.text, symbol);
    }

    private int wholeNumber(Node rule) {
        Ratio value = (Ratio) new Sight(null).value(rule);
        if (!value.isWhole()) {
            throw new Fault(8, rule.first);
        }
        return value.above.intValueExact();
    }

    private void lookAtVar(Item item) {
        if (vars.size() == 12) {
            throw new Fault(5, item.head.place);
        }
        newName(item);
        if (!item.bool) {
            whole(item.rule, true, false);
            whole(item.last, true, false);
        }
        if (item.init != null) {
            whole(item.init, true, item.bool);
        }
        Var var = new Var();
        var.bool = item.bool;
        if (item.bool) {
            var.init = item.init != null && (Boolean) new Sight(null).value(item.init) ? 1 : 0;
        } else {
            var.low = wholeNumber(item.rule);
            var.high = wholeNumber(item.last);
            if (var.low > var.high || (long) var.high - var.low + 1 > 10000) {
                throw new Fault(9, item.last.first);
            }
            var.init = var.low;
            if (item.init != null) {
                var.init = wholeNumber(item.init);
                if (var.init < var.low || var.init > var.high) {
                    throw new Fault(9, item.init.first);
                }
            }
        }
        Symbol symbol = new Symbol();
        symbol.sort = 'v';
        symbol.index = vars.size();
        symbol.isTruth = item.bool;
        vars.add(var);
        names.put(item.name.text, symbol);
    }

    private void lookAtCommand(Item item) {
        if (commands.size() == 60) {
            throw new Fault(5, item.head.place);
        }
        whole(item.rule, false, true);
        int count = 0;
        for (Branch branch : item.branches) {
            if (++count > 8) {
                throw new Fault(5, branch.chance.first);
            }
            whole(branch.chance, false, false);
            Set<String> seen = new HashSet<>();
            for (SetTo set : branch.sets) {
                Symbol symbol = names.get(set.name.text);
                if (symbol == null || symbol.sort != 'v') {
                    throw new Fault(2, set.name.place);
                }
                if (!seen.add(set.name.text)) {
                    throw new Fault(4, set.name.place);
                }
                set.var = symbol.index;
                whole(set.rule, false, symbol.isTruth);
            }
        }
        commands.add(item);
    }

    private void whole(Node rule, boolean constsOnly, boolean truth) {
        look(rule, constsOnly);
        if (rule.isTruth != truth) {
            throw new Fault(3, rule.first);
        }
    }

    private void look(Node n, boolean constsOnly) {
        if (n.op.equals("name")) {
            n.symbol = names.get(n.name);
            if (n.symbol == null || constsOnly && n.symbol.sort != 'c') {
                throw new Fault(2, n.place);
            }
            n.isTruth = n.symbol.isTruth;
            return;
        }
        boolean allTruths = true;
        boolean noTruth = true;
        for (Node part : n.parts) {
            look(part, constsOnly);
            allTruths &= part.isTruth;
            noTruth &= !part.isTruth;
        }
        boolean fits;
        switch (n.op) {
            case "num":
                fits = true;
                break;
            case "truth":
                fits = true;
                n.isTruth = true;
                break;
            case "not":
            case "&":
            case "|":
                fits = allTruths;
                n.isTruth = true;
                break;
            case "=":
            case "!=":
                fits = allTruths || noTruth;
                n.isTruth = true;
                break;
            case "<":
            case "<=":
            case ">":
            case ">=":
                fits = noTruth;
                n.isTruth = true;
                break;
            case "?":
                fits = n.parts.get(0).isTruth && n.parts.get(1).isTruth == n.parts.get(2).isTruth;
                n.isTruth = n.parts.get(1).isTruth;
                break;
            default:
                fits = noTruth;
                break;
        }
        if (!fits) {
            throw new Fault(3, n.place);
        }
    }

    // ---------------------------------------------------------------- working out

    /** Rules in one state. */
    final class Sight {
        final int[] state;
        final Map<Symbol, Object> met = new HashMap<>();

        Sight(int[] state) {
            this.state = state;
        }

        boolean truth(Node n) {
            return (Boolean) value(n);
        }

        Ratio number(Node n) {
            return (Ratio) value(n);
        }

        Object value(Node n) {
            switch (n.op) {
                case "num":
                    return n.number;
                case "truth":
                    return n.truth;
                case "name":
                    return named(n.symbol);
                case "not":
                    return !truth(n.parts.get(0));
                case "neg":
                    return Ratio.ZERO.minus(number(n.parts.get(0)));
                case "&":
                    return truth(n.parts.get(0)) && truth(n.parts.get(1));
                case "|":
                    return truth(n.parts.get(0)) || truth(n.parts.get(1));
                case "?":
                    return value(n.parts.get(truth(n.parts.get(0)) ? 1 : 2));
                case "least":
                case "most":
                    Ratio best = null;
                    for (Node part : n.parts) {
                        Ratio one = number(part);
                        if (best == null || one.compareTo(best) * (n.op.equals("least") ? -1 : 1) > 0) {
                            best = one;
                        }
                    }
                    return best;
                default:
                    return two(n, value(n.parts.get(0)), value(n.parts.get(1)));
            }
        }

        private Object named(Symbol s) {
            if (s.sort == 'c') {
                return s.isTruth ? (Object) s.truth : s.number;
            }
            if (s.sort == 'v') {
                return s.isTruth ? (Object) (state[s.index] == 1) : Ratio.of(state[s.index]);
            }
            Object value = met.get(s);
            if (value == null) {
                value = value(s.rule);
                met.put(s, value);
            }
            return value;
        }

        private Object two(Node n, Object x, Object y) {
            if (n.op.equals("=")) {
                return same(x, y);
            }
            if (n.op.equals("!=")) {
                return !same(x, y);
            }
            Ratio a = (Ratio) x;
            Ratio b = (Ratio) y;
            switch (n.op) {
                case "<":
                    return a.compareTo(b) < 0;
                case "<=":
                    return a.compareTo(b) <= 0;
                case ">":
                    return a.compareTo(b) > 0;
                case ">=":
                    return a.compareTo(b) >= 0;
                case "+":
                    return limited(a.plus(b), n.place);
                case "-":
                    return limited(a.minus(b), n.place);
                case "*":
                    return limited(a.times(b), n.place);
                case "/":
                    if (b.isZero()) {
                        throw new Fault(7, n.place);
                    }
                    return limited(new Ratio(a.above.multiply(b.below), a.below.multiply(b.above)), n.place);
                default:
                    if (!a.isWhole() || !b.isWhole()) {
                        throw new Fault(8, n.place);
                    }
                    if (b.above.signum() <= 0) {
                        throw new Fault(7, n.place);
                    }
                    return new Ratio(a.above.mod(b.above), BigInteger.ONE);
            }
        }

        private boolean same(Object x, Object y) {
            return x instanceof Ratio ? ((Ratio) x).compareTo((Ratio) y) == 0 : x.equals(y);
        }

        private Ratio limited(Ratio r, int place) {
            if (r.above.abs().compareTo(LIMIT) >= 0 || r.below.compareTo(LIMIT) >= 0) {
                throw new Fault(6, place);
            }
            return r;
        }
    }

    // ---------------------------------------------------------------- states

    static final class Move {
        int command;
        BigInteger multiple = BigInteger.ONE;
        final List<Integer> to = new ArrayList<>();
        final List<Ratio> chance = new ArrayList<>();
    }

    static final class State {
        int[] numbers;
        int kind;
        final List<Move> moves = new ArrayList<>();
    }

    List<State> states = new ArrayList<>();
    private final Map<List<Integer>, Integer> numberOf = new HashMap<>();
    private int branchCount;
    int faultState;

    private int enter(int[] numbers, int place) {
        List<Integer> key = new ArrayList<>();
        for (int n : numbers) {
            key.add(n);
        }
        Integer known = numberOf.get(key);
        if (known != null) {
            return known;
        }
        if (states.size() == 512) {
            throw new Fault(5, place);
        }
        State state = new State();
        state.numbers = numbers.clone();
        states.add(state);
        numberOf.put(key, states.size() - 1);
        return states.size() - 1;
    }

    /** Finds all states, or throws a Fault with faultState set. */
    void explore() {
        int[] init = new int[vars.size()];
        for (int v = 0; v < init.length; v++) {
            init[v] = vars.get(v).init;
        }
        enter(init, 0);
        for (int k = 0; k < states.size(); k++) {
            faultState = k;
            State state = states.get(k);
            Sight sight = new Sight(state.numbers);
            if (sight.truth(target)) {
                state.kind = 3;
                continue;
            }
            for (int c = 0; c < commands.size(); c++) {
                tryCommand(state, c, sight);
            }
        }
    }

    private void tryCommand(State state, int c, Sight sight) {
        Item command = commands.get(c);
        if (!sight.truth(command.rule)) {
            return;
        }
        int player = command.head.text.equals("max") ? 1 : 2;
        if (state.kind != 0 && state.kind != player) {
            throw new Fault(13, command.head.place);
        }
        state.kind = player;
        Move move = new Move();
        move.command = c;
        List<Ratio> chances = new ArrayList<>();
        for (Branch branch : command.branches) {
            Ratio chance = sight.number(branch.chance);
            if (chance.above.signum() < 0 || chance.compareTo(Ratio.ONE) > 0) {
                throw new Fault(11, branch.chance.first);
            }
            chances.add(chance);
        }
        Ratio sum = Ratio.ZERO;
        for (Ratio chance : chances) {
            move.multiple = move.multiple.divide(move.multiple.gcd(chance.below)).multiply(chance.below);
            sum = sum.plus(chance);
        }
        if (move.multiple.compareTo(LIMIT) >= 0) {
            throw new Fault(6, command.head.place);
        }
        if (sum.compareTo(Ratio.ONE) != 0) {
            throw new Fault(11, command.head.place);
        }
        for (int b = 0; b < chances.size(); b++) {
            if (!chances.get(b).isZero()) {
                follow(state, command, command.branches.get(b), chances.get(b), move, sight);
            }
        }
        state.moves.add(move);
    }

    private void follow(State state, Item command, Branch branch, Ratio chance, Move move, Sight sight) {
        int[] numbers = state.numbers.clone();
        for (SetTo set : branch.sets) {
            Object value = sight.value(set.rule);
            Var var = vars.get(set.var);
            if (var.bool) {
                numbers[set.var] = (Boolean) value ? 1 : 0;
                continue;
            }
            Ratio number = (Ratio) value;
            if (!number.isWhole()) {
                throw new Fault(8, set.place);
            }
            int whole = number.above.intValueExact();
            if (whole < var.low || whole > var.high) {
                throw new Fault(12, set.place);
            }
            numbers[set.var] = whole;
        }
        int to = enter(numbers, branch.chance.first);
        int joined = move.to.indexOf(to);
        if (joined >= 0) {
            move.chance.set(joined, move.chance.get(joined).plus(chance));
            return;
        }
        if (++branchCount > 4096) {
            throw new Fault(5, command.head.place);
        }
        move.to.add(to);
        move.chance.add(chance);
    }

    // ---------------------------------------------------------------- values

    /** The commands that are left when a player keeps to choices. */
    List<Move> left(int k, int keeper, int[] told) {
        State state = states.get(k);
        return state.kind == keeper && (keeper == 1 || keeper == 2)
            ? List.of(state.moves.get(told[k])) : state.moves;
    }

    boolean[] unknown(int keeper, int[] told) {
        boolean[] comes = new boolean[states.size()];
        for (boolean more = true; more;) {
            more = false;
            for (int k = 0; k < comes.length; k++) {
                if (!comes[k] && states.get(k).kind != 0 && comesOn(k, comes, left(k, keeper, told))) {
                    comes[k] = true;
                    more = true;
                }
            }
        }
        for (int k = 0; k < comes.length; k++) {
            comes[k] &= states.get(k).kind != 3;
        }
        return comes;
    }

    private boolean comesOn(int k, boolean[] comes, List<Move> moves) {
        if (states.get(k).kind == 3) {
            return true;
        }
        int good = 0;
        for (Move move : moves) {
            good += move.to.stream().anyMatch(t -> comes[t] || states.get(t).kind == 3) ? 1 : 0;
        }
        return states.get(k).kind == 1 ? good > 0 : good == moves.size();
    }

    /** 0, 5 or 6: whether values are refused. */
    int refusal(int keeper, int[] told) {
        boolean[] unknown = unknown(keeper, told);
        int count = 0;
        int weights = 0;
        for (int k = 0; k < unknown.length; k++) {
            if (!unknown[k]) {
                continue;
            }
            count++;
            BigInteger greatest = BigInteger.ZERO;
            for (Move move : left(k, keeper, told)) {
                greatest = greatest.max(move.multiple);
            }
            int weight = 0;
            while (BigInteger.ONE.shiftLeft(weight).compareTo(greatest.shiftLeft(1)) < 0) {
                weight++;
            }
            weights += weight;
        }
        return count > 40 ? 5 : weights > 480 ? 6 : 0;
    }

    Ratio worth(Move move, Ratio[] numbers) {
        Ratio sum = Ratio.ZERO;
        for (int j = 0; j < move.to.size(); j++) {
            sum = sum.plus(move.chance.get(j).times(numbers[move.to.get(j)]));
        }
        return sum;
    }

    Ratio wanted(int k, List<Move> moves, Ratio[] numbers) {
        int kind = states.get(k).kind;
        if (kind == 3 || kind == 0) {
            return kind == 3 ? Ratio.ONE : Ratio.ZERO;
        }
        Ratio best = null;
        for (Move move : moves) {
            Ratio worth = worth(move, numbers);
            if (best == null || (kind == 1 ? worth.compareTo(best) > 0 : worth.compareTo(best) < 0)) {
                best = worth;
            }
        }
        return best;
    }

    /** The ranks by part 6; -1 where there is none. Values are right if all unknown states have one. */
    int[] ranks(Ratio[] values, int keeper, int[] told) {
        int[] ranks = new int[values.length];
        for (int k = 0; k < ranks.length; k++) {
            ranks[k] = states.get(k).kind == 3 ? 0 : -1;
        }
        boolean more = true;
        for (int round = 1; more; round++) {
            more = false;
            for (int k = 0; k < ranks.length; k++) {
                if (ranks[k] >= 0 || values[k].isZero()) {
                    continue;
                }
                int attaining = 0;
                int leading = 0;
                for (Move move : left(k, keeper, told)) {
                    if (worth(move, values).compareTo(values[k]) == 0) {
                        attaining++;
                        leading += leads(move, ranks, round) ? 1 : 0;
                    }
                }
                if (states.get(k).kind == 1 ? leading > 0 : leading == attaining && attaining > 0) {
                    ranks[k] = round;
                    more = true;
                }
            }
        }
        return ranks;
    }

    boolean leads(Move move, int[] ranks, int round) {
        for (int t : move.to) {
            if (ranks[t] >= 0 && ranks[t] < round) {
                return true;
            }
        }
        return false;
    }

    int choice(int k, Ratio[] values, int[] ranks) {
        State state = states.get(k);
        if (state.moves.isEmpty()) {
            return -1;
        }
        for (int i = 0; i < state.moves.size(); i++) {
            Move move = state.moves.get(i);
            boolean attains = worth(move, values).compareTo(values[k]) == 0;
            if (state.kind == 2 && attains) {
                return i;
            }
            if (state.kind == 1 && ranks[k] >= 0 && attains && leads(move, ranks, ranks[k])) {
                return i;
            }
        }
        return state.kind == 2 ? -2 : ranks[k] >= 0 ? -2 : 0;
    }

    /** WITHIN n, or null when it is refused. */
    Ratio[] within(int n) {
        Ratio[] numbers = new Ratio[states.size()];
        for (int k = 0; k < numbers.length; k++) {
            numbers[k] = states.get(k).kind == 3 ? Ratio.ONE : Ratio.ZERO;
        }
        for (int move = 0; move < n; move++) {
            Ratio[] next = new Ratio[numbers.length];
            for (int k = 0; k < numbers.length; k++) {
                next[k] = wanted(k, states.get(k).moves, numbers);
                if (next[k].above.bitLength() > 480 || next[k].below.bitLength() > 480) {
                    return null;
                }
            }
            numbers = next;
        }
        return numbers;
    }
}
