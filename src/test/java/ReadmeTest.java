import java.io.File;
import java.io.IOException;
import java.lang.reflect.Method;
import java.nio.file.Files;
import java.nio.file.Path;

/** README.md: its example stands here too and does what it says, and it names all calls and all tests. */
public final class ReadmeTest {
    public static void main(String[] args) throws IOException {
        Harness harness = new Harness();
        String readme = Files.readString(Path.of("README.md"));
        String source = plain(Files.readString(Path.of("src/test/java/ReadmeTest.java")));
        harness.due("the example", example(), "3/10 1 3/10 0");
        String[] parts = readme.split("```");
        for (int i = 1; i < parts.length; i += 2) {
            harness.due("the README's code stands in this test: " + parts[i],
                source.contains(plain(parts[i].substring("java".length()))), true);
        }
        for (Method method : ChanceArena.class.getDeclaredMethods()) {
            if (java.lang.reflect.Modifier.isPublic(method.getModifiers())) {
                harness.due("the README names " + method.getName(), readme.contains("`" + method.getName() + "`"), true);
            }
        }
        for (File file : new File("src/test/java").listFiles()) {
            String name = file.getName().replace(".java", "");
            harness.due("the README names " + name, !name.endsWith("Test") || readme.contains("`" + name), true);
        }
        harness.finish();
    }

    /** Code without its blanks at the lines' begins. */
    private static String plain(String code) {
        return code.replaceAll("(?m)^ +", "").trim();
    }

    static void feed(ChanceArena arena, String text) {
        for (int i = 0; i < text.length(); i += 20) {
            int[] five = new int[5];
            for (int j = 0; j < 20; j++) {
                five[j / 4] = five[j / 4] << 8 | (i + j < text.length() ? text.charAt(i + j) : ' ');
            }
            arena.feed(five[0], five[1], five[2], five[3], five[4]);
        }
        if (text.length() % 20 != 0) {
            arena.end(text.length() % 20);
        }
    }

    static String fraction(ChanceArena arena, int state, int what) {
        StringBuilder text = new StringBuilder();
        int length = arena.print(state, what);
        for (int i = 0; i < length; i++) {
            text.append((char) arena.character(i));
        }
        return text.toString();
    }

    static String example() {
        ChanceArena arena = new ChanceArena();
        feed(arena, "var x: 0..3;                             # three places and a target\n"
            + "max x=0 -> 1: (x'=1);                              # max may hand over to min,\n"
            + "max x=0 -> 3/10: (x'=3) + 7/10: (x'=2);            # or try its luck\n"
            + "min x=1 -> 1: (x'=0);\n"
            + "min x=1 -> 6/10: (x'=3) + 4/10: (x'=2);\n"
            + "target x=3;\n");
        if (arena.compile() != 0 || arena.explore() != 0) {
            return "a fault at " + arena.place();
        }
        if (arena.solve() != 0) {
            return "refused";
        }
        String value = fraction(arena, 0, 0);      // "3/10": the value of state 0
        int best = arena.choice(0);                // 1: max tries its luck
        arena.within(2);
        String soon = fraction(arena, 0, 1);       // "3/10": in at most two moves
        arena.choose(0, 0);                        // max hands over, come what may
        arena.judge(1);
        String judged = fraction(arena, 0, 2);     // "0": min hands back for ever
        return value + " " + best + " " + soon + " " + judged;
    }
}
