import java.math.BigInteger;
import java.util.Random;

/** What the tests share: texts onto the tape, printed fractions off it, and a count of what is wrong. */
final class Harness {
    private int calls;
    private int wrong;

    void due(String what, Object got, Object want) {
        calls++;
        if (!String.valueOf(got).equals(String.valueOf(want))) {
            wrong++;
            if (wrong <= 30) {
                System.out.println(what + " answered " + got + ", due is " + want);
            }
        }
    }

    boolean clean() {
        return wrong == 0;
    }

    void finish() {
        System.out.println(calls + " answers looked at, " + wrong + " wrong");
        System.exit(wrong == 0 && calls > 0 ? 0 : 1);
    }

    interface Call {
        Object run();
    }

    /** The answer, or the name of what is thrown. */
    static Object answer(Call call) {
        try {
            return call.run();
        } catch (RuntimeException e) {
            return e.getClass().getSimpleName();
        }
    }

    private static int four(String text, int from) {
        int bytes = 0;
        for (int i = from; i < from + 4; i++) {
            bytes = bytes << 8 | (i < text.length() ? text.charAt(i) : 'Q');
        }
        return bytes;
    }

    private static void twenty(ChanceArena arena, String text, int from) {
        int length = arena.feed(four(text, from), four(text, from + 4), four(text, from + 8), four(text, from + 12), four(text, from + 16));
        if (length < 0) {
            throw new IllegalArgumentException("a text that is too long for the tape");
        }
    }

    /** Puts a text on the tape; what is less than twenty goes first, so that a text of 16384 has room. */
    static void feed(ChanceArena arena, String text) {
        int rest = text.length() % 20;
        if (rest != 0) {
            twenty(arena, text, 0);
            arena.end(rest);
        }
        for (int i = rest; i < text.length(); i += 20) {
            twenty(arena, text, i);
        }
    }

    static int compile(ChanceArena arena, String text) {
        feed(arena, text);
        return arena.compile();
    }

    static String fault(ChanceArena arena, String text) {
        return compile(arena, text) + "@" + arena.place();
    }

    static String printed(ChanceArena arena, int k, int what) {
        int length = arena.print(k, what);
        if (length < 0) {
            return "none";
        }
        StringBuilder text = new StringBuilder();
        for (int i = 0; i < length; i++) {
            text.append((char) arena.character(i));
        }
        return arena.character(length) == -1 && arena.character(-1) == -1 ? text.toString() : "too long";
    }

    /** Holds all that the class tells of a text against the model. */
    void hold(ChanceArena arena, String text, Random random) {
        String compiled;
        Model model = null;
        try {
            model = Model.compile(text);
            compiled = "0@-1";
        } catch (Model.Fault fault) {
            compiled = fault.number + "@" + fault.place;
        }
        due("compile of " + text, fault(arena, text), compiled);
        if (model == null) {
            return;
        }
        due("items of " + text, arena.items(0) + " " + arena.items(1) + " " + arena.items(2),
            model.vars.size() + " " + model.named + " " + model.commands.size());
        String explored;
        try {
            model.explore();
            explored = "0@-1@-1";
        } catch (Model.Fault fault) {
            explored = fault.number + "@" + fault.place + "@" + model.faultState;
            model.states.clear();
        }
        due("explore of " + text, arena.explore() + "@" + arena.place() + "@" + arena.state(), explored);
        due("states of " + text, arena.states(), model.states.size());
        if (model.states.isEmpty() || arena.states() != model.states.size()) {
            return;
        }
        holdStates(arena, model, text);
        holdValues(arena, model, text);
        holdWithin(arena, model, text, random.nextInt(random.nextInt(4) == 0 ? 33 : 8));
        holdJudged(arena, model, text, random);
    }

    private void holdStates(ChanceArena arena, Model model, String text) {
        StringBuilder got = new StringBuilder();
        StringBuilder want = new StringBuilder();
        for (int k = 0; k < model.states.size(); k++) {
            Model.State state = model.states.get(k);
            got.append("|").append(arena.kind(k)).append(":").append(arena.commands(k));
            want.append("|").append(state.kind).append(":").append(state.moves.size());
            for (int v = 0; v < state.numbers.length; v++) {
                got.append(" ").append(arena.variable(k, v));
                want.append(" ").append(state.numbers[v]);
            }
            for (int i = 0; i < state.moves.size(); i++) {
                Model.Move move = state.moves.get(i);
                got.append(";").append(arena.command(k, i)).append(",").append(arena.branches(k, i));
                want.append(";").append(move.command).append(",").append(move.to.size());
                for (int j = 0; j < move.to.size(); j++) {
                    got.append(" ").append(arena.branch(k, i, j, 0)).append(" ").append(arena.branch(k, i, j, 1))
                        .append("/").append(arena.branch(k, i, j, 2));
                    want.append(" ").append(move.to.get(j)).append(" ").append(move.chance.get(j).above)
                        .append("/").append(move.chance.get(j).below);
                }
            }
        }
        due("states told of " + text, got, want);
    }

    /** The fractions of all states; null when one is none. */
    private static Model.Ratio[] told(ChanceArena arena, int states, int what) {
        Model.Ratio[] found = new Model.Ratio[states];
        for (int k = 0; k < states; k++) {
            String text = printed(arena, k, what);
            if (text.equals("none")) {
                return null;
            }
            found[k] = Model.Ratio.parse(text);
            if (!found[k].toString().equals(text)) {
                return null;
            }
        }
        return found;
    }

    private static int billionths(Model.Ratio ratio) {
        return ratio.above.multiply(BigInteger.valueOf(1000000000)).divide(ratio.below).intValueExact();
    }

    private Model.Ratio[] holdFractions(ChanceArena arena, Model model, String text, int what, int keeper, int[] told) {
        Model.Ratio[] values = told(arena, model.states.size(), what);
        due("there are fractions " + what + " of " + text, values != null, true);
        if (values == null) {
            return null;
        }
        for (int k = 0; k < values.length; k++) {
            due("fraction " + what + " of state " + k + " of " + text, values[k],
                model.wanted(k, model.left(k, keeper, told), values));
            due("billionths " + what + " of state " + k + " of " + text, arena.billionths(k, what),
                billionths(values[k]));
            int other = values.length - 1 - k;
            due("compare " + what + " of " + text, arena.compare(k, what, other, what),
                values[k].compareTo(values[other]));
        }
        return values;
    }

    private void holdValues(ChanceArena arena, Model model, String text) {
        int refusal = model.refusal(0, null);
        due("solve of " + text, arena.solve(), refusal);
        if (refusal != 0) {
            due("check of " + text, arena.check() + printed(arena, 0, 0), "-1none");
            return;
        }
        Model.Ratio[] values = holdFractions(arena, model, text, 0, 0, null);
        if (values == null) {
            return;
        }
        int[] ranks = model.ranks(values, 0, null);
        for (int k = 0; k < values.length; k++) {
            due("state has a rank of " + text, ranks[k] >= 0, !values[k].isZero());
            due("rank of " + k + " of " + text, arena.rank(k), ranks[k]);
            due("choice of " + k + " of " + text, arena.choice(k), model.choice(k, values, ranks));
        }
        due("check of " + text, arena.check(), 1);
    }

    private void holdWithin(ChanceArena arena, Model model, String text, int n) {
        Model.Ratio[] want = model.within(n);
        due("within " + n + " of " + text, arena.within(n), want == null ? 6 : 0);
        for (int k = 0; k < model.states.size(); k++) {
            due("within " + n + " of state " + k + " of " + text, printed(arena, k, 1), want == null ? "none" : want[k]);
            due("billionths within " + n + " of " + text, arena.billionths(k, 1),
                want == null ? -1 : billionths(want[k]));
        }
    }

    private void holdJudged(ChanceArena arena, Model model, String text, Random random) {
        int[] told = new int[model.states.size()];
        boolean adopted = arena.choice(0) != -1 && random.nextInt(3) == 0;
        if (adopted) {
            arena.adopt();
        }
        for (int k = 0; k < told.length; k++) {
            int commands = model.states.get(k).moves.size();
            told[k] = commands == 0 ? 0 : adopted ? arena.choice(k) : random.nextInt(commands);
            if (commands > 0 && !adopted) {
                arena.choose(k, told[k]);
            }
            int r = random.nextInt(Integer.MAX_VALUE);
            due("next of " + text, arena.next(k, r), next(model, k, told[k], r));
        }
        for (int player = 1; player <= 2; player++) {
            int refusal = model.refusal(player, told);
            due("judge " + player + " of " + text, arena.judge(player), refusal);
            if (refusal != 0) {
                due("judged of " + text, printed(arena, 0, 2), "none");
                continue;
            }
            Model.Ratio[] values = holdFractions(arena, model, text, 2, player, told);
            if (values == null) {
                continue;
            }
            int[] ranks = model.ranks(values, player, told);
            for (int k = 0; k < values.length; k++) {
                due("judged has a rank of " + text, ranks[k] >= 0, !values[k].isZero());
                if (adopted) {
                    due("adopted choices attain, of " + text, arena.compare(k, 2, k, 0), 0);
                }
            }
        }
    }

    private static int next(Model model, int k, int told, int r) {
        if (model.states.get(k).moves.isEmpty()) {
            return k;
        }
        Model.Move move = model.states.get(k).moves.get(told);
        Model.Ratio draw = new Model.Ratio(BigInteger.valueOf(r), BigInteger.ONE.shiftLeft(31));
        Model.Ratio sum = Model.Ratio.ZERO;
        for (int j = 0; j < move.to.size(); j++) {
            sum = sum.plus(move.chance.get(j));
            if (sum.compareTo(draw) > 0) {
                return move.to.get(j);
            }
        }
        return -9;
    }
}
