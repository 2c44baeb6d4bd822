import java.lang.reflect.Field;
import java.lang.reflect.Method;

/** What check() tells of values and ranks that do not hold; no call makes such, so reflection does. */
public final class CheckTest {
    private static final Harness T = new Harness();
    private static final String TEXT = "var x:0..4;max x=0->1/2:(x'=1)+1/2:(x'=2);min x=1->1:(x'=0);min x=1->1/3:(x'=3)+2/3:(x'=4);"
        + "max x=2->1:stay;max x=2->1:(x'=2);target x=3;";

    public static void main(String[] args) throws ReflectiveOperationException {
        for (int k = 0; k < 5; k++) {
            ChanceArena arena = solved();
            T.due("holds", arena.check(), 1);
            put(arena, k, 2, 7);
            T.due("state " + k + " has another value", arena.check(), 0);
        }
        for (int k = 0; k < 5; k++) {
            ChanceArena arena = solved();
            int[] ranks = (int[]) field(field(arena, "solver"), "ranks");
            ranks[k] = ranks[k] == 1 ? 2 : 1;
            T.due("state " + k + " has another rank", arena.check(), 0);
        }
        // Each number is one that a command has, but not the greatest, or not the least one; or none that a command has.
        wrong("var x:0..2;max x=0->1/2:(x'=1)+1/2:(x'=2);max x=0->1:(x'=1);target x=1;", 1, 2);
        wrong("var x:0..2;min x=0->1/2:(x'=1)+1/2:(x'=2);min x=0->1:(x'=1);target x=1;", 1, 1);
        wrong("var x:0..2;min x=0->1/2:(x'=1)+1/2:(x'=2);target x=1;", 1, 3);
        wrong("var x:0..2;max x=0->1/2:(x'=1)+1/2:(x'=2);target x=1;", 2, 3);
        wrong("var x:0..2;max x=0->1/2:(x'=1)+1/2:(x'=2);target x=1;", 0, 1);
        wrong("var x:0..2;max x=0->1/2:(x'=1)+1/2:(x'=2);target x=1;", 3, 2);
        // The number one half fits a state that leads to itself, but it is not the least one.
        ChanceArena arena = new ChanceArena();
        Harness.compile(arena, "var x:0..1;max x=0->1:stay;target x=1;");
        arena.explore();
        arena.solve();
        T.due("holds", arena.check(), 1);
        put(arena, 0, 1, 2);
        T.due("a greater number that fits", arena.check(), 0);
        T.finish();
    }

    private static ChanceArena solved() {
        return Edges.solved(TEXT);
    }

    /** Another number for state 0 does not hold. */
    private static void wrong(String text, int above, int below) throws ReflectiveOperationException {
        ChanceArena arena = Edges.solved(text);
        T.due("holds", arena.check(), 1);
        put(arena, 0, above, below);
        T.due("state 0 has " + above + "/" + below + " in " + text, arena.check(), 0);
    }

    private static Object field(Object of, String name) throws ReflectiveOperationException {
        Field field = of.getClass().getDeclaredField(name);
        field.setAccessible(true);
        return field.get(of);
    }

    private static void put(ChanceArena arena, int k, int above, int below) throws ReflectiveOperationException {
        Object row = ((Object[]) field(field(arena, "values"), "rows"))[k];
        Object[] parts = {field(row, "above"), field(row, "below")};
        int[] numbers = {above, below};
        for (int i = 0; i < 2; i++) {
            Method put = parts[i].getClass().getDeclaredMethod("put", int.class);
            put.setAccessible(true);
            put.invoke(parts[i], numbers[i]);
        }
    }
}
