import java.io.IOException;
import java.lang.reflect.Field;
import java.lang.reflect.Method;
import java.nio.file.Files;
import java.nio.file.Path;
import java.util.ArrayList;
import java.util.Collections;
import java.util.List;
import java.util.Random;

/**
 * Texts whose values take many rounds when all states take their best commands at once, and rounds in
 * which one state alone does: no text may need so many of these, and they must come to the same values.
 */
public final class RoundsTest {
    /** Several times what any text here took. */
    private static final int FEW = 5000;
    private static final Harness T = new Harness();

    public static void main(String[] args) throws IOException, ReflectiveOperationException {
        counter();
        swings();
        mixedSwings();
        randomTexts();
        T.finish();
    }

    /** Max's states count in twos, by 1,174,134 rounds; min's count so when the players are changed. */
    private static void counter() throws IOException, ReflectiveOperationException {
        String text = Files.readString(Path.of("src/test/texts/counter.txt"));
        String below = "/1459854213115104420182360064000";
        manyRounds(text, "767569603611583039945035500209" + below);
        manyRounds(changed(text, "target x=39", "target x=40"), "692284609503521380237324563791" + below);
    }

    /** The same game with max for min and min for max, where what was an end is the target. */
    private static String changed(String text, String target, String end) {
        return text.replace("max ", "MIN ").replace("min ", "max ").replace("MIN ", "min ").replace(target, end);
    }

    /** Holds all that is told of a text against the model, and its first state's value. */
    private static void manyRounds(String text, String value) throws ReflectiveOperationException {
        ChanceArena arena = new ChanceArena();
        for (int i = 0; i < 4; i++) {
            T.hold(arena, text, new Random(i));
        }
        T.due("the value of state 0", Harness.printed(arena, 0, 0), value);
        T.due("rounds in which all states better were not enough", ((int[]) field(field(arena, "solver"), "others")).length > 0, true);
        Edges.adopt(arena);
        for (int player = 1; player <= 2; player++) {
            T.due("judge " + player, arena.judge(player), 0);
            for (int k = 0; k < arena.states(); k++) {
                T.due("judged " + player + ", state " + k, arena.compare(k, 2, k, 0), 0);
            }
        }
        T.due("few rounds of one state", oneByOne(arena) < FEW, true);
    }

    /**
     * Two states of max's become better by small steps, one of them and then the other one the better
     * one; each time the state of min's goes over to the other one, by small steps too.
     */
    private static List<String> swingCommands() {
        List<String> commands = new ArrayList<>();
        for (int r = 0, slow = 1; r < 12; r++, slow *= 4) {
            int one = 10 * r + 1 + r % 2 * 4;
            int other = 10 * r + 5 - r % 2 * 4;
            commands.add("max x=1|x=2->(x=1?" + one + ":" + other + ")/140/" + slow + ":(x'=3)+(140-(x=1?" + one + ":" + other
                + "))/140/" + slow + ":(x'=4)+1-1/" + slow + ":stay;");
        }
        for (int c = 0, slow = 1; c < 23; c++, slow *= 2) {
            for (int to = 1; to <= 2; to++) {
                commands.add("min x=0->" + (40 + c) + "/80/" + slow + ":(x'=" + to + ")+" + (40 - c) + "/80/" + slow
                    + ":(x'=" + (3 - to) + ")+1-1/" + slow + ":stay;");
            }
        }
        return commands;
    }

    private static String swing(List<String> commands) {
        return "var x:0..4;target x=3;" + String.join("\n", commands);
    }

    private static void swings() throws ReflectiveOperationException {
        String text = swing(swingCommands());
        manyRounds(text, "1119/1400");
        T.due("all values", Edges.fractions(Edges.solved(text), 0), "1119/1400 23/28 111/140 1 0");
    }

    /** The commands in any order: the values stay. */
    private static void mixedSwings() {
        Random random = new Random(3);
        for (int i = 0; i < 60; i++) {
            List<String> commands = swingCommands();
            Collections.shuffle(commands, random);
            ChanceArena arena = new ChanceArena();
            T.hold(arena, swing(commands), random);
            T.due("the value of state 0, mixed", Harness.printed(arena, 0, 0), "1119/1400");
        }
    }

    /** Random texts: rounds of one state from the first one on come to the values that solve() found. */
    private static void randomTexts() throws ReflectiveOperationException {
        for (long seed = 1; seed <= 4000; seed++) {
            ChanceArena arena = new ChanceArena();
            if (Harness.compile(arena, FuzzTest.text(seed)) != 0 || arena.explore() != 0 || arena.solve() != 0) {
                continue;
            }
            String values = Edges.fractions(arena, 0);
            T.due("few rounds of one state, seed " + seed, oneByOne(arena) < FEW, true);
            T.due("values of seed " + seed, Edges.fractions(arena, 0), values);
        }
    }

    /** Works the values out anew, one state a round: in how many rounds. No call begins so, reflection does. */
    private static int oneByOne(ChanceArena arena) throws ReflectiveOperationException {
        Object solver = field(arena, "solver");
        Object values = field(arena, "values");
        run(solver, "leaveCommands", 0);
        run(solver, "findUnknown");
        run(values, "begin", field(arena, "game"));
        run(solver, "listOthers");
        for (int round = 1; round < FEW; round++) {
            run(solver, "evaluate", values);
            if (!(Boolean) run(solver, "improveOne", values)) {
                return round;
            }
        }
        return FEW;
    }

    private static Object field(Object of, String name) throws ReflectiveOperationException {
        Field field = of.getClass().getDeclaredField(name);
        field.setAccessible(true);
        return field.get(of);
    }

    private static Object run(Object of, String name, Object... arguments) throws ReflectiveOperationException {
        for (Method method : of.getClass().getDeclaredMethods()) {
            if (method.getName().equals(name)) {
                method.setAccessible(true);
                return method.invoke(of, arguments);
            }
        }
        throw new NoSuchMethodException(name);
    }
}
