/**
 * What the tests of edges share: the sentence of the document that is looked at, and texts in which
 * '@' (which is no word) marks the place of the fault that is due; the mark itself is not fed.
 */
final class Edges {
    static final char MARK = '@';
    private final Harness harness = new Harness();
    private String sentence = "";

    /** What is looked at from here on. */
    void says(String newSentence) {
        sentence = newSentence;
    }

    void due(String call, Object got, Object want) {
        harness.due("[" + sentence + "] " + call, got, want);
    }

    void finish() {
        harness.finish();
    }

    static String plain(String marked) {
        int at = marked.indexOf(MARK);
        return at < 0 ? marked : marked.substring(0, at) + marked.substring(at + 1);
    }

    private static String shown(String text) {
        return text.length() <= 300 ? text : text.substring(0, 140) + " .. " + text.substring(text.length() - 140);
    }

    static String times(String part, int count) {
        return part.repeat(count);
    }

    /** Many items, in each of which '*' is the item's number. */
    static String many(String item, int count) {
        StringBuilder all = new StringBuilder();
        for (int i = 0; i < count; i++) {
            all.append(item.replace("*", String.valueOf(i)));
        }
        return all.toString();
    }

    /** compile() finds no fault. */
    void stands(String text) {
        due("compile of " + shown(text), Harness.fault(new ChanceArena(), text), "0@-1");
    }

    /** compile() finds the fault at the mark. */
    void fault(int fault, String marked) {
        due("compile of " + shown(marked), Harness.fault(new ChanceArena(), plain(marked)), fault + "@" + marked.indexOf(MARK));
    }

    /** A const's rule that stands. */
    void rule(String rule) {
        stands("const a=" + rule + ";target true;");
    }

    /** A const's rule with a fault at the mark. */
    void ruleFault(int fault, String marked) {
        fault(fault, "const a=" + marked + ";target true;");
    }

    /** A const's rule has a value (a truth as itself). */
    void worth(String rule, String want) {
        ChanceArena arena = explored("const a=" + rule + ";target a=" + want + ";");
        due(rule + " = " + want, arena.kind(0), 3);
    }

    static ChanceArena compiled(String text) {
        ChanceArena arena = new ChanceArena();
        Harness.compile(arena, text);
        return arena;
    }

    static ChanceArena explored(String text) {
        ChanceArena arena = compiled(text);
        Harness.answer(() -> arena.explore());
        return arena;
    }

    static ChanceArena solved(String text) {
        ChanceArena arena = explored(text);
        Harness.answer(() -> arena.solve());
        return arena;
    }

    /** explore() finds so many states. */
    void found(int states, String text) {
        ChanceArena arena = new ChanceArena();
        due("compile of " + shown(text), Harness.fault(arena, text), "0@-1");
        due("explore of " + shown(text), Harness.answer(() -> arena.explore() + "@" + arena.place() + "@" + arena.state()), "0@-1@-1");
        due("states of " + shown(text), arena.states(), states);
    }

    /** explore() finds the fault at the mark, in a state; then there are none. */
    void stuck(int fault, int state, String marked) {
        ChanceArena arena = new ChanceArena();
        due("compile of " + shown(marked), Harness.fault(arena, plain(marked)), "0@-1");
        due("explore of " + shown(marked), Harness.answer(() -> arena.explore() + "@" + arena.place() + "@" + arena.state()),
            fault + "@" + marked.indexOf(MARK) + "@" + state);
        due("states of " + shown(marked), arena.states(), 0);
    }

    /** All vars of all states: those of a state with ',' between, states with ' ' between. */
    static String states(ChanceArena arena) {
        StringBuilder all = new StringBuilder();
        for (int k = 0; k < arena.states(); k++) {
            all.append(k == 0 ? "" : " ");
            for (int v = 0; v < arena.items(0); v++) {
                all.append(v == 0 ? "" : ",").append(arena.variable(k, v));
            }
        }
        return all.toString();
    }

    /** The kinds of all states. */
    static String kinds(ChanceArena arena) {
        StringBuilder all = new StringBuilder();
        for (int k = 0; k < arena.states(); k++) {
            all.append(arena.kind(k));
        }
        return all.toString();
    }

    /** All branches of a state's command. */
    static String branches(ChanceArena arena, int k, int i) {
        StringBuilder all = new StringBuilder();
        for (int j = 0; j < arena.branches(k, i); j++) {
            all.append(j == 0 ? "" : " ").append(arena.branch(k, i, j, 0)).append(":")
                .append(arena.branch(k, i, j, 1)).append("/").append(arena.branch(k, i, j, 2));
        }
        return all.toString();
    }

    /** The fractions of all states. */
    static String fractions(ChanceArena arena, int what) {
        StringBuilder all = new StringBuilder();
        for (int k = 0; k < arena.states(); k++) {
            all.append(k == 0 ? "" : " ").append(Harness.printed(arena, k, what));
        }
        return all.toString();
    }

    static String ranks(ChanceArena arena) {
        StringBuilder all = new StringBuilder();
        for (int k = 0; k < arena.states(); k++) {
            all.append(k == 0 ? "" : " ").append(arena.rank(k));
        }
        return all.toString();
    }

    static String choices(ChanceArena arena) {
        StringBuilder all = new StringBuilder();
        for (int k = 0; k < arena.states(); k++) {
            all.append(k == 0 ? "" : " ").append(arena.choice(k));
        }
        return all.toString();
    }

    static Object adopt(ChanceArena arena) {
        return Harness.answer(() -> {
            arena.adopt();
            return "done";
        });
    }

    static Object choose(ChanceArena arena, int k, int i) {
        return Harness.answer(() -> {
            arena.choose(k, i);
            return "done";
        });
    }
}
