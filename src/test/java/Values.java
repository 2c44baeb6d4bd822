import java.math.BigInteger;
import java.util.ArrayList;
import java.util.List;

/** Values by plain elimination with fractions of any size; what they are is proved before it is told. */
final class Values {
    private final Model model;
    private final int keeper;
    private final int[] told;
    private final List<Integer> unknown = new ArrayList<>();
    private final Model.Move[] chosen;

    private Values(Model model, int keeper, int[] told) {
        this.model = model;
        this.keeper = keeper;
        this.told = told;
        chosen = new Model.Move[model.states.size()];
        boolean[] above = model.unknown(keeper, told);
        for (int k = 0; k < above.length; k++) {
            if (above[k]) {
                unknown.add(k);
            }
        }
    }

    /** The values when a player (0: none) keeps to the choices that are told. */
    static Model.Ratio[] of(Model model, int keeper, int[] told) {
        Values values = new Values(model, keeper, told);
        values.begin();
        Model.Ratio[] numbers = values.evaluate();
        while (values.better(2, numbers) || values.better(1, numbers)) {
            numbers = values.evaluate();
        }
        values.prove(numbers);
        return numbers;
    }

    /** Choices that come to a target, whatever min does. */
    private void begin() {
        boolean more = true;
        while (more) {
            more = false;
            for (int k : unknown) {
                List<Model.Move> left = model.left(k, keeper, told);
                for (Model.Move move : left) {
                    boolean leads = move.to.stream().anyMatch(t -> model.states.get(t).kind == 3 || chosen[t] != null);
                    if (chosen[k] == null && leads && (model.states.get(k).kind == 1 || allLead(left))) {
                        chosen[k] = move;
                        more = true;
                    }
                }
            }
        }
    }

    private boolean allLead(List<Model.Move> moves) {
        return moves.stream().allMatch(
            move -> move.to.stream().anyMatch(t -> model.states.get(t).kind == 3 || chosen[t] != null));
    }

    private Model.Ratio[] evaluate() {
        int n = unknown.size();
        Model.Ratio[][] rows = new Model.Ratio[n][n + 1];
        for (int i = 0; i < n; i++) {
            for (int j = 0; j <= n; j++) {
                rows[i][j] = Model.Ratio.of(i == j ? 1 : 0);
            }
            Model.Move move = chosen[unknown.get(i)];
            for (int b = 0; b < move.to.size(); b++) {
                int to = unknown.indexOf(move.to.get(b));
                if (to >= 0) {
                    rows[i][to] = rows[i][to].minus(move.chance.get(b));
                } else if (model.states.get(move.to.get(b)).kind == 3) {
                    rows[i][n] = rows[i][n].plus(move.chance.get(b));
                }
            }
        }
        eliminate(rows);
        Model.Ratio[] numbers = new Model.Ratio[chosen.length];
        for (int k = 0; k < numbers.length; k++) {
            int at = unknown.indexOf(k);
            numbers[k] = at >= 0 ? rows[at][n] : model.states.get(k).kind == 3 ? Model.Ratio.ONE : Model.Ratio.ZERO;
        }
        return numbers;
    }

    private static void eliminate(Model.Ratio[][] rows) {
        int n = rows.length;
        for (int k = 0; k < n; k++) {
            int pivot = k;
            while (rows[pivot][k].isZero()) {
                pivot++;
            }
            Model.Ratio[] row = rows[pivot];
            rows[pivot] = rows[k];
            rows[k] = row;
            Model.Ratio inverse = new Model.Ratio(row[k].below, row[k].above);
            for (int j = k; j <= n; j++) {
                row[j] = row[j].times(inverse);
            }
            for (int i = 0; i < n; i++) {
                Model.Ratio factor = rows[i][k];
                for (int j = k; j <= n && i != k && !factor.isZero(); j++) {
                    rows[i][j] = rows[i][j].minus(factor.times(row[j]));
                }
            }
        }
    }

    private boolean better(int player, Model.Ratio[] numbers) {
        boolean better = false;
        for (int k : unknown) {
            for (Model.Move move : model.left(k, keeper, told)) {
                int relation = model.worth(move, numbers).compareTo(model.worth(chosen[k], numbers));
                if (model.states.get(k).kind == player && (player == 1 ? relation > 0 : relation < 0)) {
                    chosen[k] = move;
                    better = true;
                }
            }
        }
        return better;
    }

    /** Part 6: the numbers are what they must be, and each that is above 0 has a rank. */
    private void prove(Model.Ratio[] numbers) {
        int[] ranks = model.ranks(numbers, keeper, told);
        for (int k = 0; k < numbers.length; k++) {
            boolean right = numbers[k].compareTo(model.wanted(k, model.left(k, keeper, told), numbers)) == 0;
            if (!right || ranks[k] < 0 && numbers[k].compareTo(Model.Ratio.of(0)) != 0
                    || numbers[k].above.compareTo(BigInteger.ZERO) < 0) {
                throw new IllegalStateException("the test's own values are wrong");
            }
        }
    }
}
