import java.util.ArrayList;
import java.util.List;
import java.util.Random;

/** Random texts, right and wrong ones, held against the model. Arguments: first seed, how many. */
public final class FuzzTest {
    private final Random random;

    private FuzzTest(long seed) {
        random = new Random(seed);
    }

    public static void main(String[] args) {
        long first = args.length > 0 ? Long.parseLong(args[0]) : 1;
        int count = args.length > 1 ? Integer.parseInt(args[1]) : 6000;
        Harness harness = new Harness();
        ChanceArena arena = new ChanceArena();
        for (long seed = first; seed < first + count; seed++) {
            if (seed % 50 == 0) {
                arena = new ChanceArena();
            }
            FuzzTest fuzz = new FuzzTest(seed);
            try {
                harness.hold(arena, fuzz.text(), fuzz.random);
            } catch (RuntimeException e) {
                e.printStackTrace(System.out);
                harness.due("seed " + seed, e, "no exception");
            }
            if (!harness.clean()) {
                System.out.println("seed " + seed);
                break;
            }
        }
        harness.finish();
    }

    /** A random text for other tests. */
    static String text(long seed) {
        return new FuzzTest(seed).text();
    }

    private int below(int n) {
        return random.nextInt(n);
    }

    private String one(String... of) {
        return of[below(of.length)];
    }

    private String text() {
        switch (below(6)) {
            case 0:
                return wild();
            case 1:
                return spoilt(below(2) == 0 ? wild() : game());
            case 2:
            case 3:
                return dense();
            default:
                return game();
        }
    }

    // ------------------------------------------------------------ games that mostly hold

    private String fraction(int most) {
        int below = 1 + below(most);
        return below(below + 1) + "/" + below;
    }

    private String game() {
        int size = 2 + below(below(3) == 0 ? 45 : 12);
        int most = one("3", "7", "12", "60", "1000", "30000").length() > 3 ? 30000 : 2 + below(20);
        StringBuilder text = new StringBuilder("var x:0.." + (size - 1) + ";");
        boolean second = below(3) == 0;
        if (second) {
            text.append("var b:bool").append(one("", " init true", " init false")).append(";");
        }
        int commands = 1 + below(2 + Math.min(57, 2 * size));
        for (int c = 0; c < commands; c++) {
            int from = below(size);
            boolean alone = below(3) > 0;
            // One player for each number, so that few texts are mixed.
            String player = (from * 7 + size) % 3 == 0 ? "min" : "max";
            String guard = alone ? "x=" + from : below(2) == 0 ? "x%3=" + (from % 3) : "x=" + from + "|x=" + (from + 3) % size;
            if (!alone) {
                player = one("max", "min", "max");
            }
            text.append(player).append(" ").append(guard).append("->").append(branches(size, most, second)).append(";");
        }
        text.append("target ").append(one("x=" + (size - 1), "x=" + below(size), "x>" + (size - 3), "x=" + (size - 1) + "|x=0"));
        return text.append(";").toString();
    }

    private String branches(int size, int most, boolean second) {
        int count = 1 + below(below(4) == 0 ? 8 : 3);
        int parts = Math.max(count, 1 + below(most));
        StringBuilder text = new StringBuilder();
        int left = parts;
        for (int b = 0; b < count; b++) {
            int share = b == count - 1 ? left : below(left + 1);
            left -= share;
            text.append(b == 0 ? "" : "+").append(parts == share ? "1" : share + "/" + parts).append(":").append(sets(size, second));
        }
        return text.toString();
    }

    private String sets(int size, boolean second) {
        String set;
        switch (below(6)) {
            case 0:
                return "stay";
            case 1:
                set = "(x'=least(x+1," + (size - 1) + "))";
                break;
            case 2:
                set = "(x'=most(x-1,0))";
                break;
            case 3:
                set = "(x'=(x+" + below(size) + ")%" + size + ")";
                break;
            default:
                set = "(x'=" + below(size) + ")";
                break;
        }
        return set + (second && below(3) == 0 ? "&(b'=" + one("!b", "true", "x>1") + ")" : "");
    }

    // ------------------------------------------------------------ games where most states are unknown

    private String dense() {
        int size = 3 + below(below(3) == 0 ? 44 : 14);
        int most = below(4) == 0 ? 40000 : below(3) == 0 ? 300 : 7;
        int turns = 1 + below(4);
        StringBuilder text = new StringBuilder("const n=" + size + "; var x:0..n-1 init " + below(size) + ";\n");
        text.append("formula mine=x%").append(turns).append("=0;");
        int general = 1 + below(4);
        for (int c = 0; c < general; c++) {
            text.append(denseCommand(size, most, "max mine", c == 0 || below(2) == 0));
            text.append(denseCommand(size, most, "min !mine", c == 0 || below(2) == 0));
        }
        int special = below(20);
        for (int c = 0; c < special; c++) {
            int x = below(size);
            text.append(denseCommand(size, most, (x % turns == 0 ? "max" : "min") + " x=" + x, below(2) == 0));
        }
        text.append("target x=").append(below(size)).append(below(3) == 0 ? "|x=n-1" : "").append(";");
        return text.toString();
    }

    private String denseCommand(int size, int most, String head, boolean near) {
        StringBuilder text = new StringBuilder(head).append("->");
        int branches = 1 + below(below(3) == 0 ? 8 : 3);
        int parts = branches + below(most);
        int left = parts;
        for (int b = 0; b < branches; b++) {
            int share = b == branches - 1 ? left : 1 + below(Math.max(1, left - branches + b));
            left -= share;
            text.append(b == 0 ? "" : "+").append(share).append("/").append(parts).append(":(x'=");
            text.append(near ? "(x+" + one("1", "2", "n-1", "n-2", "3") + ")%n" : below(3) == 0 ? "" + below(size) : "(x*" + (1 + below(5)) + "+" + below(size) + ")%n");
            text.append(")");
        }
        return text.append(";\n").toString();
    }

    // ------------------------------------------------------------ texts of all kinds

    private final List<String> numbers = new ArrayList<>();
    private final List<String> truths = new ArrayList<>();

    private String wild() {
        StringBuilder text = new StringBuilder();
        numbers.clear();
        truths.clear();
        int count = 1 + below(10);
        List<String> vars = new ArrayList<>();
        List<String> bools = new ArrayList<>();
        for (int i = 0; i < count; i++) {
            String name = one("a", "b", "c", "d", "e", "f", "g") + (below(3) == 0 ? "_" + i : "" + i);
            switch (below(4)) {
                case 0:
                    boolean truth = below(4) == 0;
                    text.append("const ").append(name).append("=").append(rule(2, truth)).append(";");
                    (truth ? truths : numbers).add(name);
                    break;
                case 1:
                    if (below(3) == 0) {
                        text.append("var ").append(name).append(":bool").append(below(2) == 0 ? "" : " init " + rule(1, true)).append(";");
                        bools.add(name);
                    } else {
                        text.append("var ").append(name).append(":").append(below(6) == 0 ? rule(1, false) : "0").append("..")
                            .append(below(6) == 0 ? rule(2, false) : "" + (1 + below(5)))
                            .append(below(3) > 0 ? "" : " init " + rule(1, false)).append(";");
                        vars.add(name);
                    }
                    break;
                default:
                    break;
            }
        }
        numbers.addAll(vars);
        truths.addAll(bools);
        count = below(4);
        for (int i = 0; i < count; i++) {
            boolean truth = below(2) == 0;
            text.append("formula F").append(i).append("=").append(rule(3, truth)).append(";");
            (truth ? truths : numbers).add("F" + i);
        }
        boolean early = below(4) == 0;
        if (early) {
            text.append("target ").append(rule(2, true)).append(";");
        }
        count = below(5);
        for (int i = 0; i < count; i++) {
            text.append(one("max", "max", "min")).append(" ").append(rule(2, true)).append("->");
            int branches = 1 + below(3);
            for (int b = 0; b < branches; b++) {
                text.append(b == 0 ? "" : "+").append(below(4) == 0 ? simple(2, false) : branches == 1 ? "1" : "1/" + branches).append(":");
                text.append(wildSets(vars, bools));
            }
            text.append(";");
        }
        if (!early || below(20) == 0) {
            text.append("target ").append(rule(2, true)).append(";");
        }
        return text.toString();
    }

    private String wildSets(List<String> vars, List<String> bools) {
        StringBuilder text = new StringBuilder();
        for (String var : vars) {
            if (below(2) == 0) {
                text.append(text.length() == 0 ? "" : "&").append("(").append(var).append("'=")
                    .append(below(2) == 0 ? "" + below(4) : rule(2, false)).append(")");
            }
        }
        for (String bool : bools) {
            if (below(2) == 0) {
                text.append(text.length() == 0 ? "" : "&").append("(").append(bool).append("'=").append(rule(2, true)).append(")");
            }
        }
        return text.length() == 0 ? "stay" : text.toString();
    }

    /** A rule without '?' of its own. */
    private String simple(int depth, boolean truth) {
        if (below(60) == 0) {
            truth = !truth;
        }
        if (depth == 0 || below(4) == 0) {
            List<String> known = truth ? truths : numbers;
            if (!known.isEmpty() && below(3) > 0) {
                return known.get(below(known.size()));
            }
            return truth ? one("true", "false") : one("0", "1", "2", "3", "7", "12", "999999999", "31623", "1/2", "2/7");
        }
        if (truth) {
            switch (below(6)) {
                case 0:
                    return "!" + one("", "!") + simple(depth - 1, true);
                case 1:
                    return simple(depth - 1, true) + one("&", "|") + simple(depth - 1, true);
                case 2:
                    return "(" + rule(depth - 1, true) + ")";
                case 3:
                    return "(" + rule(depth - 1, true) + ")" + one("=", "!=") + "(" + rule(depth - 1, true) + ")";
                default:
                    return sum(depth - 1) + one("=", "!=", "<", "<=", ">", ">=") + sum(depth - 1);
            }
        }
        return sum(depth);
    }

    private String sum(int depth) {
        if (depth <= 0) {
            return simple(0, false);
        }
        switch (below(6)) {
            case 0:
                return "-" + sum(depth - 1);
            case 1:
                return one("least", "most") + "(" + rule(depth - 1, false) + (below(3) == 0 ? "" : "," + rule(depth - 1, false)) + ")";
            case 2:
                return "(" + rule(depth - 1, false) + ")";
            default:
                return sum(depth - 1) + one("+", "-", "*", "/", "%", "+", "-") + sum(depth - 1);
        }
    }

    private String rule(int depth, boolean truth) {
        if (depth > 0 && below(6) == 0) {
            return simple(depth - 1, true) + "?" + rule(depth - 1, truth) + ":" + rule(depth - 1, truth);
        }
        return simple(depth, truth);
    }

    // ------------------------------------------------------------ spoilt ones

    private String spoilt(String text) {
        StringBuilder spoilt = new StringBuilder(text);
        int times = 1 + below(2);
        for (int i = 0; i < times && spoilt.length() > 0; i++) {
            int at = below(spoilt.length());
            switch (below(5)) {
                case 0:
                    spoilt.deleteCharAt(at);
                    break;
                case 1:
                    spoilt.insert(at, one("(", ")", "-", "!", "?", ":", ";", "..", "=", "'", " ", "#", "\n", "+", "&", "x", "1", "_",
                        "true", " init ", "target true;", "const q=1;", "max true->1:stay;", "1234567890", "least(", "\u00e9", "->"));
                    break;
                case 2:
                    spoilt.setCharAt(at, (char) below(256));
                    break;
                case 3:
                    spoilt.setLength(at);
                    break;
                default:
                    int other = below(spoilt.length());
                    spoilt.insert(at, spoilt.substring(Math.min(at, other), Math.min(Math.min(at, other) + 1 + below(20), spoilt.length())));
                    break;
            }
        }
        return spoilt.toString();
    }
}
