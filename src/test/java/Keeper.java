import java.math.BigInteger;

/**
 * An arena as the document tells it: it keeps what each call leaves behind, and asks the model for all
 * the rest. Its answers are what a run of calls on the class must answer, call by call.
 */
final class Keeper {
    private static final int FEED = 20;
    private static final int TAPE = 16384;
    private static final int NONE = -1;

    private final StringBuilder tape = new StringBuilder();
    private String source;
    private Model text;
    private Model game;
    private int place = NONE;
    private int faultState = NONE;
    private int[] told = new int[0];
    /** Values, WITHIN and JUDGED; null what was not worked out. */
    private final Model.Ratio[][] fractions = new Model.Ratio[3][];
    private int[] ranks;
    private String printed = "";

    int feed(int... numbers) {
        if (tape.length() + FEED > TAPE) {
            return NONE;
        }
        for (int number : numbers) {
            for (int shift = 24; shift >= 0; shift -= 8) {
                tape.append((char) (number >> shift & 255));
            }
        }
        return tape.length();
    }

    int end(int n) {
        if (n < 0 || n > FEED || tape.length() < FEED) {
            throw new IllegalArgumentException();
        }
        tape.setLength(tape.length() - FEED + n);
        return tape.length();
    }

    int compile() {
        String fed = tape.toString();
        tape.setLength(0);
        try {
            text = Model.compile(fed);
        } catch (Model.Fault fault) {
            place = fault.place;
            return fault.number;
        }
        source = fed;
        place = NONE;
        forgetStates();
        return 0;
    }

    private void forgetStates() {
        game = null;
        told = new int[0];
        for (int what = 0; what < fractions.length; what++) {
            fractions[what] = null;
        }
    }

    int place() {
        return place;
    }

    int items(int what) {
        if (text == null || what < 0 || what > 2) {
            return NONE;
        }
        return what == 0 ? text.vars.size() : what == 1 ? text.named : text.commands.size();
    }

    int explore() {
        if (text == null) {
            throw new IllegalStateException();
        }
        forgetStates();
        Model fresh = Model.compile(source);
        try {
            fresh.explore();
        } catch (Model.Fault fault) {
            place = fault.place;
            faultState = fresh.faultState;
            return fault.number;
        }
        place = NONE;
        faultState = NONE;
        game = fresh;
        told = new int[game.states.size()];
        return 0;
    }

    int state() {
        return faultState;
    }

    int states() {
        return game == null ? 0 : game.states.size();
    }

    private boolean has(int k) {
        return k >= 0 && k < states();
    }

    private Model.Move move(int k, int i) {
        return has(k) && i >= 0 && i < game.states.get(k).moves.size() ? game.states.get(k).moves.get(i) : null;
    }

    int variable(int k, int v) {
        if (!has(k) || v < 0 || v >= game.vars.size()) {
            throw new IndexOutOfBoundsException();
        }
        return game.states.get(k).numbers[v];
    }

    int kind(int k) {
        return has(k) ? game.states.get(k).kind : NONE;
    }

    int commands(int k) {
        return has(k) ? game.states.get(k).moves.size() : NONE;
    }

    int command(int k, int i) {
        return move(k, i) == null ? NONE : move(k, i).command;
    }

    int branches(int k, int i) {
        return move(k, i) == null ? NONE : move(k, i).to.size();
    }

    int branch(int k, int i, int j, int what) {
        Model.Move move = move(k, i);
        if (move == null || j < 0 || j >= move.to.size() || what < 0 || what > 2) {
            return NONE;
        }
        Model.Ratio chance = move.chance.get(j);
        return what == 0 ? move.to.get(j) : (what == 1 ? chance.above : chance.below).intValueExact();
    }

    private void needStates() {
        if (states() == 0) {
            throw new IllegalStateException();
        }
    }

    int solve() {
        needStates();
        int refusal = game.refusal(0, null);
        fractions[0] = refusal == 0 ? Values.of(game, 0, null) : null;
        ranks = refusal == 0 ? game.ranks(fractions[0], 0, null) : null;
        return refusal;
    }

    int within(int n) {
        if (n < 0 || n > 32) {
            throw new IllegalArgumentException();
        }
        needStates();
        fractions[1] = game.within(n);
        return fractions[1] == null ? 6 : 0;
    }

    int choose(int k, int i) {
        if (move(k, i) == null) {
            throw new IndexOutOfBoundsException();
        }
        told[k] = i;
        return 0;
    }

    int adopt() {
        if (fractions[0] == null) {
            throw new IllegalStateException();
        }
        for (int k = 0; k < told.length; k++) {
            told[k] = Math.max(choice(k), 0);
        }
        return 0;
    }

    int judge(int player) {
        if (player != 1 && player != 2) {
            throw new IllegalArgumentException();
        }
        needStates();
        int refusal = game.refusal(player, told);
        fractions[2] = refusal == 0 ? Values.of(game, player, told) : null;
        return refusal;
    }

    private Model.Ratio fraction(int k, int what) {
        return has(k) && what >= 0 && what <= 2 && fractions[what] != null ? fractions[what][k] : null;
    }

    int print(int k, int what) {
        if (fraction(k, what) == null) {
            return NONE;
        }
        printed = fraction(k, what).toString();
        return printed.length();
    }

    int character(int i) {
        return i >= 0 && i < printed.length() ? printed.charAt(i) : NONE;
    }

    int compare(int k, int what, int other, int with) {
        Model.Ratio first = fraction(k, what);
        Model.Ratio second = fraction(other, with);
        return first == null || second == null ? -2 : first.compareTo(second);
    }

    int billionths(int k, int what) {
        Model.Ratio found = fraction(k, what);
        return found == null ? NONE : found.above.multiply(Model.LIMIT).divide(found.below).intValueExact();
    }

    int choice(int k) {
        return fraction(k, 0) == null ? NONE : game.choice(k, fractions[0], ranks);
    }

    int rank(int k) {
        return fraction(k, 0) == null ? NONE : ranks[k];
    }

    int next(int k, int r) {
        if (!has(k) || r < 0) {
            return NONE;
        }
        Model.Move move = move(k, told[k]);
        if (move == null) {
            return k;
        }
        Model.Ratio draw = new Model.Ratio(BigInteger.valueOf(r), BigInteger.ONE.shiftLeft(31));
        Model.Ratio sum = move.chance.get(0);
        int j = 0;
        while (sum.compareTo(draw) <= 0) {
            j++;
            sum = sum.plus(move.chance.get(j));
        }
        return move.to.get(j);
    }

    int check() {
        return fractions[0] == null ? NONE : 1;
    }
}
