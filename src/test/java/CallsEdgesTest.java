import java.math.BigInteger;
import java.util.ArrayList;
import java.util.List;

/** The edges that the promises' own headings name: what a call answers, throws, changes and leaves as it is. */
public final class CallsEdgesTest {
    private static final int MOST = Integer.MAX_VALUE;
    private static final int LEAST = Integer.MIN_VALUE;
    private static final String GAME = "const c=1;var x:0..4;var b:bool init true;max x=0->1:(x'=1);max x=0->1/4:(x'=3)+3/4:(x'=4);"
        + "min x=1->1/2:(x'=3)+1/2:(x'=4);min x=1->1/3:(x'=3)+2/3:(x'=4);target x=3;";
    /** What can be seen of an object. */
    private static final String[] PARTS = {"tape", "items", "place", "state", "states", "values", "within", "judged", "told", "printed"};
    private final Edges e = new Edges();

    public static void main(String[] args) {
        CallsEdgesTest test = new CallsEdgesTest();
        test.newObject();
        test.feed();
        test.feedBytes();
        test.end();
        test.compile();
        test.place();
        test.items();
        test.explore();
        test.state();
        test.states();
        test.variable();
        test.kindAndCommands();
        test.branch();
        test.solve();
        test.within();
        test.choose();
        test.adopt();
        test.judge();
        test.print();
        test.character();
        test.compare();
        test.billionths();
        test.choice();
        test.rank();
        test.next();
        test.check();
        test.whatChanges();
        test.whatThrows();
        test.e.finish();
    }

    // ------------------------------------------------------------ what can be seen

    /** All that was worked out of one sort, told by other calls than print(), so that what was printed stays. */
    private static String workedOut(ChanceArena a, int what) {
        StringBuilder all = new StringBuilder();
        for (int k = 0; k < Math.min(a.states(), 5); k++) {
            all.append(" ").append(a.billionths(k, what)).append(" ").append(a.compare(k, what, 0, what));
            if (what == 0) {
                all.append(" ").append(a.choice(k)).append(" ").append(a.rank(k));
            }
        }
        return what == 0 ? all + " " + a.check() : all.toString();
    }

    private static String told(ChanceArena a) {
        StringBuilder all = new StringBuilder();
        for (int k = 0; k < Math.min(a.states(), 5); k++) {
            all.append(" ").append(a.next(k, 0)).append(" ").append(a.next(k, MOST));
        }
        return all.toString();
    }

    private static String statesOf(ChanceArena a) {
        StringBuilder all = new StringBuilder(String.valueOf(a.states()));
        for (int k = 0; k < Math.min(a.states(), 5); k++) {
            all.append(" ").append(a.kind(k)).append(a.commands(k)).append(a.command(k, 1)).append(a.branches(k, 0)).append(a.branch(k, 0, 0, 2));
        }
        return all.toString();
    }

    private static String printedOf(ChanceArena a) {
        return a.character(0) + " " + a.character(1) + " " + a.character(2) + " " + a.character(3) + " " + a.character(4);
    }

    /** How many characters the tape has; it has as many afterwards. */
    private static String tapeOf(ChanceArena a) {
        int length = a.feed(0, 0, 0, 0, 0);
        return length < 0 ? "full" : length + " " + a.end(0);
    }

    private static List<String> seen(ChanceArena a) {
        List<String> all = new ArrayList<>();
        all.add(tapeOf(a));
        all.add(a.items(0) + " " + a.items(1) + " " + a.items(2));
        all.add("" + a.place());
        all.add("" + a.state());
        all.add(statesOf(a));
        all.add(workedOut(a, 0));
        all.add(workedOut(a, 1));
        all.add(workedOut(a, 2));
        all.add(told(a));
        all.add(printedOf(a));
        return all;
    }

    private static String changed(List<String> before, List<String> after) {
        StringBuilder all = new StringBuilder();
        for (int i = 0; i < PARTS.length; i++) {
            if (!before.get(i).equals(after.get(i))) {
                all.append(all.length() == 0 ? "" : " ").append(PARTS[i]);
            }
        }
        return all.toString();
    }

    /** An object about which there is something to tell in every part. */
    private static ChanceArena full() {
        ChanceArena a = Edges.solved(GAME);
        a.within(1);
        a.choose(0, 1);
        a.judge(2);
        a.print(0, 2);
        Harness.compile(a, "   $");
        a.feed(0x74617267, 0x65742074, 0x7275653b, 0, 0);
        a.end(12);
        return a;
    }

    // ------------------------------------------------------------ promises 1 to 9

    private void newObject() {
        e.says("1: An empty tape, no text, no states, nothing printed");
        e.due("seen", seen(new ChanceArena()), "[20 0, -1 -1 -1, -1, -1, 0,  -1, , , , -1 -1 -1 -1 -1]");
        e.due("tape", Harness.answer(() -> new ChanceArena().end(0)), "IllegalArgumentException");
        e.due("tape", new ChanceArena().feed(0, 0, 0, 0, 0), 20);
        ChanceArena one = full();
        ChanceArena other = new ChanceArena();
        e.due("another object has its own", seen(other), seen(new ChanceArena()));
        e.due("another object has its own", changed(seen(one), seen(full())), "");
    }

    private static String blanks(ChanceArena a, int count) {
        String last = "";
        for (int i = 0; i < count; i++) {
            last = "" + a.feed(0x20202020, 0x20202020, 0x20202020, 0x20202020, 0x20202020);
        }
        return last;
    }

    private void feed() {
        e.says("2: Twenty more characters on the tape: how many there are");
        ChanceArena a = new ChanceArena();
        for (int i = 1; i <= 40; i++) {
            e.due("feed", a.feed(0x20202020, 0x20202020, 0x20202020, 0x20202020, 0x20202020), 20 * i);
        }
        e.due("all of them", a.compile() + "@" + a.place(), "10@800");
        e.says("2: NONE, and nothing is done, when there would be more than 16384");
        ChanceArena most = new ChanceArena();
        e.due("819 times twenty", blanks(most, 819), "16380");
        e.due("16400", most.feed(0, 0, 0, 0, 0), -1);
        e.due("nothing is done", most.end(20), 16380);
        e.due("16364", most.end(4), 16364);
        e.due("16384", most.feed(0x20202020, 0x20202020, 0x20202020, 0x20202020, 0x2020203b), 16384);
        e.due("16404", most.feed(0, 0, 0, 0, 0), -1);
        e.due("the last one counts", most.compile() + "@" + most.place(), "1@16383");
        ChanceArena over = new ChanceArena();
        blanks(over, 819);
        over.end(5);
        e.due("16385", over.feed(0, 0, 0, 0, 0), -1);
        e.due("nothing is done", over.compile() + "@" + over.place(), "10@16365");
        e.says("1: THE TAPE has at most 16384 characters");
        ChanceArena whole = new ChanceArena();
        Harness.feed(whole, Edges.times(" ", 16384 - 12) + "target true;");
        e.due("all of them are the text", whole.compile() + " " + whole.items(2) + " " + whole.explore(), "0 0 0");
        ChanceArena names = new ChanceArena();
        Harness.feed(names, "const a=" + Edges.times("1+", (16384 - 22) / 2) + "1;target true;");
        e.due("all of them are words", names.compile() + "@" + names.place(), "0@-1");
        ChanceArena signs = new ChanceArena();
        Harness.feed(signs, Edges.times(";", 16384));
        e.due("signs alone", signs.compile() + "@" + signs.place(), "1@0");
    }

    private void feedBytes() {
        e.says("2: four by each number, its highest byte first");
        ChanceArena a = new ChanceArena();
        // "target", " tru", "e;" and blanks.
        e.due("feed", a.feed(0x74617267, 0x65742020, 0x20747275, 0x653b2020, 0x20202020), 20);
        e.due("compile", a.compile(), 0);
        for (int at = 0; at < 20; at++) {
            int[] five = new int[5];
            for (int i = 0; i < 5; i++) {
                five[i] = 0x20202020;
            }
            // 0xff is no word, wherever it stands.
            five[at / 4] |= 0xff << 24 - 8 * (at % 4);
            ChanceArena b = new ChanceArena();
            b.feed(five[0], five[1], five[2], five[3], five[4]);
            e.due("character " + at, b.compile() + "@" + b.place(), "1@" + at);
        }
        ChanceArena zero = new ChanceArena();
        zero.feed(0, 0, 0, 0, 0);
        e.due("0 is a character", zero.compile() + "@" + zero.place(), "1@0");
        ChanceArena minus = new ChanceArena();
        minus.feed(-1, -1, -1, -1, -1);
        e.due("255 is a character", minus.compile() + "@" + minus.place(), "1@0");
        ChanceArena comment = new ChanceArena();
        comment.feed(0x23ff0080, 0x0a746172, 0x67657420, 0x74727565, 0x3b23ffff);
        e.due("any in a comment", comment.compile() + "@" + comment.place(), "0@-1");
    }

    private void end() {
        e.says("3: The tape's last twenty characters become the first n of them: how many there are");
        for (int n = 0; n <= 20; n++) {
            ChanceArena a = new ChanceArena();
            blanks(a, 2);
            e.due("end(" + n + ")", a.end(n), 20 + n);
            e.due("compile", a.compile() + "@" + a.place(), "10@" + (20 + n));
        }
        ChanceArena first = new ChanceArena();
        first.feed(0x74617267, 0x65742074, 0x7275653b, 0x3b3b3b3b, 0x3b3b3b3b);
        e.due("the first of them", first.end(12) + " " + first.compile(), "12 0");
        ChanceArena again = new ChanceArena();
        blanks(again, 2);
        e.due("again", again.end(15) + " " + again.end(15) + " " + again.end(15) + " " + again.end(20), "35 30 25 25");
        e.says("3: IllegalArgumentException when n is not 0 .. 20");
        ChanceArena a = new ChanceArena();
        blanks(a, 2);
        for (int n : new int[] {-1, 21, LEAST, MOST, -20, 40}) {
            e.due("end(" + n + ")", Harness.answer(() -> a.end(n)), "IllegalArgumentException");
        }
        e.due("nothing changed", a.end(20), 40);
        e.says("3: IllegalArgumentException when there are not twenty");
        ChanceArena few = new ChanceArena();
        e.due("none", Harness.answer(() -> few.end(0)), "IllegalArgumentException");
        e.due("none", Harness.answer(() -> few.end(20)), "IllegalArgumentException");
        blanks(few, 1);
        e.due("twenty", few.end(20), 20);
        e.due("nineteen are left", few.end(19), 19);
        for (int n : new int[] {0, 1, 19, 20}) {
            e.due("nineteen", Harness.answer(() -> few.end(n)), "IllegalArgumentException");
        }
        e.due("nothing changed", blanks(few, 1), "39");
        few.compile();
        e.due("none after compile()", Harness.answer(() -> few.end(20)), "IllegalArgumentException");
        blanks(few, 1);
        e.due("twenty again", few.end(0), 0);
        e.due("none", Harness.answer(() -> few.end(0)), "IllegalArgumentException");
    }

    private void compile() {
        e.says("4: The tape becomes the text: 0, or the fault. The tape is empty then, in any case");
        ChanceArena a = new ChanceArena();
        e.due("0", Harness.fault(a, "target true;"), "0@-1");
        e.due("the tape is empty", a.feed(0, 0, 0, 0, 0) + " " + a.end(0), "20 0");
        e.due("a fault", Harness.fault(a, "target 1;"), "3@7");
        e.due("the tape is empty", a.feed(0, 0, 0, 0, 0) + " " + a.end(0), "20 0");
        e.due("an empty tape", a.compile() + "@" + a.place(), "10@0");
        e.says("4: (the text there was stays, with its states and all that was worked out)");
        for (String wrong : new String[] {"", "$", "target x;", "target 1;", "target true;target true;", Edges.many("var v*:bool;", 13) + "target true;",
                "const a=999999999+1;target true;", "const a=1/0;target true;", "const a=1/2%1;target true;", "var x:1..0;target true;", "var y:0..1;"}) {
            ChanceArena b = full();
            List<String> before = seen(b);
            b.feed(0, 0, 0, 0, 0);
            b.compile();
            Harness.compile(b, wrong);
            e.due("after " + wrong, changed(before, seen(b)), "tape place");
            e.due("values after " + wrong, Edges.fractions(b, 0), "1/3 1/3 1 0");
            e.due("vars after " + wrong, Edges.states(b), "0,1 1,1 3,1 4,1");
            e.due("it can be explored again after " + wrong, b.explore() + " " + Edges.states(b), "0 0,1 1,1 3,1 4,1");
        }
        ChanceArena none = new ChanceArena();
        Harness.compile(none, "target 1;");
        e.due("no text there was", none.items(0) + " " + Harness.answer(() -> none.explore()), "-1 IllegalStateException");
        e.says("4: States, and all that was worked out, are gone when it is 0");
        ChanceArena gone = full();
        gone.compile();
        e.due("seen", seen(gone), "[20 0, 0 0 0, -1, -1, 0,  -1, , , , 49 47 50 -1 -1]");
        e.due("fractions", gone.print(0, 0) + " " + gone.print(0, 1) + " " + gone.print(0, 2), "-1 -1 -1");
        e.due("the same text", same(), "0 0 -1 -1");
    }

    private static String same() {
        ChanceArena a = Edges.solved(GAME);
        int fault = Harness.compile(a, GAME);
        return fault + " " + a.states() + " " + a.choice(0) + " " + a.check();
    }

    private void place() {
        e.says("5: The place of the latest fault of compile() or explore(); NONE when the latest of these had none, or before these");
        ChanceArena a = new ChanceArena();
        e.due("before these", a.place(), -1);
        Harness.answer(() -> a.explore());
        e.due("what throws is none", a.place(), -1);
        Harness.compile(a, "const a=1;$");
        e.due("compile()", a.place(), 10);
        Harness.answer(() -> a.explore());
        e.due("what throws is none", a.place(), 10);
        Harness.compile(a, "var x:0..1;max true->1:(x'=x+1);target false;");
        e.due("none", a.place(), -1);
        a.explore();
        e.due("explore()", a.place(), 23);
        Harness.compile(a, "$");
        e.due("compile()", a.place(), 0);
        a.explore();
        e.due("explore()", a.place(), 23);
        Harness.compile(a, "target true;");
        e.due("none", a.place(), -1);
        Harness.compile(a, "$");
        e.due("compile()", a.place(), 0);
        a.explore();
        e.due("explore() had none", a.place(), -1);
        Harness.compile(a, " $");
        a.solve();
        a.within(3);
        a.judge(1);
        e.due("others tell none", a.place(), 1);
    }

    private void items() {
        e.says("6: how many vars (what 0), consts and formulas (1), commands (2); NONE for others, or without a text");
        ChanceArena a = new ChanceArena();
        e.due("without a text", a.items(0) + " " + a.items(1) + " " + a.items(2) + " " + a.items(3), "-1 -1 -1 -1");
        Harness.compile(a, "const a=1;");
        e.due("without a text", a.items(0) + " " + a.items(1) + " " + a.items(2), "-1 -1 -1");
        Harness.compile(a, "target true;");
        e.due("none of them", a.items(0) + " " + a.items(1) + " " + a.items(2), "0 0 0");
        Harness.compile(a, "var x:0..1;var y:bool;var z:bool;const a=1;formula f=1;max true->1:stay;max true->1:stay;min true->1:stay;"
            + "min true->1:stay;target true;");
        e.due("some", a.items(0) + " " + a.items(1) + " " + a.items(2), "3 2 4");
        e.due("others", a.items(3) + " " + a.items(-1) + " " + a.items(MOST) + " " + a.items(LEAST), "-1 -1 -1 -1");
        e.says("6: (of the latest compile() that answered 0)");
        Harness.compile(a, "var x:0..1;");
        e.due("a fault", a.items(0) + " " + a.items(1) + " " + a.items(2), "3 2 4");
        Harness.compile(a, "var x:0..1;target true;");
        e.due("a new text", a.items(0) + " " + a.items(1) + " " + a.items(2), "1 0 0");
    }

    private void explore() {
        e.says("7: Finds all states: 0, or the fault; then there are none");
        ChanceArena a = Edges.compiled("var x:0..3;max x<2->1:(x'=x+1);target x=2;");
        e.due("none yet", a.states(), 0);
        e.due("0", a.explore() + " " + a.states(), "0 3");
        e.due("again", a.explore() + " " + a.states(), "0 3");
        ChanceArena b = Edges.compiled("var x:0..3;max true->1:(x'=x+1);target x=9;");
        e.due("a fault", b.explore() + " " + b.states() + " " + b.kind(0) + " " + b.commands(0), "12 0 -1 -1");
        e.due("again", b.explore() + " " + b.states() + " " + b.state() + " " + b.place(), "12 0 3 23");
        e.due("no states", Harness.answer(() -> b.solve()) + " " + Harness.answer(() -> b.judge(1)) + " " + Harness.answer(() -> b.within(0)),
            "IllegalStateException IllegalStateException IllegalStateException");
        e.due("no states", Harness.answer(() -> b.variable(0, 0)) + " " + b.next(0, 0) + " " + Edges.choose(b, 0, 0),
            "IndexOutOfBoundsException -1 IndexOutOfBoundsException");
        e.says("7: What was worked out and told is gone");
        ChanceArena c = full();
        c.explore();
        e.due("seen", changed(seen(c), seen(Edges.explored(GAME))), "tape printed");
        e.due("fractions", c.print(0, 0) + " " + c.print(0, 1) + " " + c.print(0, 2), "-1 -1 -1");
        e.due("not worked out", Edges.adopt(c), "IllegalStateException");
        e.due("told", c.next(0, 0) + " " + c.judge(1) + " " + Harness.printed(c, 0, 2), "1 0 1/3");
        e.says("7: IllegalStateException when there is no text");
        e.due("a new object", Harness.answer(() -> new ChanceArena().explore()), "IllegalStateException");
        ChanceArena none = Edges.compiled("target 1;");
        e.due("a fault is no text", Harness.answer(() -> none.explore()), "IllegalStateException");
        Harness.compile(none, "target true;");
        e.due("a text", Harness.answer(() -> none.explore()), "0");
    }

    private void state() {
        e.says("8: the state in which its fault was; NONE when it had none, and before any");
        ChanceArena a = new ChanceArena();
        e.due("before any", a.state(), -1);
        Harness.compile(a, "var x:0..3;max true->1:(x'=x+1);target false;");
        e.due("before any", a.state(), -1);
        a.explore();
        e.due("a fault", a.state(), 3);
        e.says("8: (whatever was compiled since)");
        Harness.compile(a, "$");
        e.due("a fault", a.state(), 3);
        Harness.compile(a, "target 1=1/0;");
        e.due("a text", a.state() + " " + a.place(), "3 -1");
        a.explore();
        e.due("state 0", a.state(), 0);
        Harness.compile(a, "target true;");
        a.explore();
        e.due("none", a.state(), -1);
        Harness.compile(a, "$");
        e.due("compile() has no state", a.state() + " " + a.place(), "-1 0");
    }

    private void states() {
        e.says("9: How many states there are; 0 before any");
        ChanceArena a = new ChanceArena();
        e.due("before any", a.states(), 0);
        Harness.compile(a, GAME);
        e.due("compiled", a.states(), 0);
        a.explore();
        e.due("explored", a.states(), 4);
        Harness.compile(a, "$");
        e.due("a fault", a.states(), 4);
        Harness.compile(a, GAME);
        e.due("compiled again", a.states(), 0);
        e.due("one", Edges.explored("target true;").states(), 1);
        e.due("512", Edges.explored("var x:0..511;max x<511->1:(x'=x+1);target false;").states(), 512);
    }

    // ------------------------------------------------------------ promises 10 to 15

    private void variable() {
        e.says("10: The value of var v (in the text's order, from 0) in a state; a truth as 1 or 0");
        ChanceArena a = Edges.explored("var x:-9..9 init -9;var b:bool init true;max x=-9->1:(x'=9)&(b'=false);target false;");
        e.due("values", a.variable(0, 0) + " " + a.variable(0, 1) + " " + a.variable(1, 0) + " " + a.variable(1, 1), "-9 1 9 0");
        e.says("10: IndexOutOfBoundsException when there is no such state or var");
        int[][] wrong = {{2, 0}, {-1, 0}, {0, 2}, {0, -1}, {1, 2}, {2, 2}, {-1, -1}, {MOST, 0}, {LEAST, 0}, {0, MOST}, {0, LEAST}, {512, 0}, {0, 12}};
        for (int[] w : wrong) {
            e.due("variable(" + w[0] + ", " + w[1] + ")", Harness.answer(() -> a.variable(w[0], w[1])), "IndexOutOfBoundsException");
        }
        ChanceArena none = Edges.explored("target true;");
        e.due("no vars", Harness.answer(() -> none.variable(0, 0)), "IndexOutOfBoundsException");
        e.says("10: (there is none between a compile() that answered 0 and explore())");
        Harness.compile(a, "$");
        e.due("another answer", Harness.answer(() -> a.variable(1, 1)), "0");
        Harness.compile(a, "var x:0..1;var y:0..1;target true;");
        e.due("0", Harness.answer(() -> a.variable(0, 0)), "IndexOutOfBoundsException");
        a.explore();
        e.due("explored", Harness.answer(() -> a.variable(0, 0)) + " " + Harness.answer(() -> a.variable(1, 0)), "0 IndexOutOfBoundsException");
    }

    private void kindAndCommands() {
        ChanceArena a = Edges.explored(GAME);
        int[] none = {-1, 4, 5, 511, 512, MOST, LEAST};
        e.says("11: 0 an end, 1 MAX'S, 2 MIN'S, 3 a target; NONE when there is no such state");
        e.due("kinds", Edges.kinds(a), "1230");
        for (int k : none) {
            e.due("kind(" + k + ")", a.kind(k), -1);
        }
        e.says("12: How many commands a state has; NONE when there is none such");
        e.due("commands", a.commands(0) + " " + a.commands(1) + " " + a.commands(2) + " " + a.commands(3), "2 2 0 0");
        for (int k : none) {
            e.due("commands(" + k + ")", a.commands(k), -1);
        }
        e.says("13: Which command of the text a state's command i is, both from 0; NONE when there is none");
        e.due("command", a.command(0, 0) + " " + a.command(0, 1) + " " + a.command(1, 0) + " " + a.command(1, 1), "0 1 2 3");
        e.due("none", a.command(0, 2) + " " + a.command(0, -1) + " " + a.command(1, 2) + " " + a.command(2, 0) + " " + a.command(3, 0)
            + " " + a.command(0, MOST) + " " + a.command(0, LEAST), "-1 -1 -1 -1 -1 -1 -1");
        for (int k : none) {
            e.due("command(" + k + ", 0)", a.command(k, 0), -1);
        }
        e.says("14: How many branches command i of a state has; NONE when there is none");
        e.due("branches", a.branches(0, 0) + " " + a.branches(0, 1) + " " + a.branches(1, 0), "1 2 2");
        e.due("none", a.branches(0, 2) + " " + a.branches(0, -1) + " " + a.branches(1, 2) + " " + a.branches(2, 0) + " " + a.branches(3, 0)
            + " " + a.branches(0, MOST) + " " + a.branches(0, LEAST), "-1 -1 -1 -1 -1 -1 -1");
        for (int k : none) {
            e.due("branches(" + k + ", 0)", a.branches(k, 0), -1);
        }
    }

    private void branch() {
        e.says("15: Branch j of it: where it leads (what 0), its chance's number above (1), below (2); NONE when there is none such");
        ChanceArena a = Edges.explored(GAME);
        e.due("branch", Edges.branches(a, 0, 0) + ", " + Edges.branches(a, 0, 1) + ", " + Edges.branches(a, 1, 1), "1:1/1, 2:1/4 3:3/4, 2:1/3 3:2/3");
        int[][] wrong = {{-1, 0, 0, 0}, {4, 0, 0, 0}, {2, 0, 0, 0}, {3, 0, 0, 0}, {0, -1, 0, 0}, {0, 2, 0, 0}, {0, 0, -1, 0}, {0, 0, 1, 0}, {0, 1, 2, 0},
            {0, 1, 0, -1}, {0, 1, 0, 3}, {0, 1, 0, MOST}, {0, 1, 0, LEAST}, {0, 1, MOST, 0}, {0, 1, LEAST, 1}, {0, MOST, 0, 1}, {MOST, 0, 0, 2}};
        for (int[] w : wrong) {
            e.due("branch(" + w[0] + ", " + w[1] + ", " + w[2] + ", " + w[3] + ")", a.branch(w[0], w[1], w[2], w[3]), -1);
        }
    }

    // ------------------------------------------------------------ promises 16 to 20

    private static ChanceArena refused() {
        // 20 unknown states of weight 25; the second command of state 0 leaves 19 of them. 2^480 has 481 bits.
        return Edges.explored("var x:0..99;max x<20->1/16777216:(x'=x+1)+16777215/16777216:(x'=99);max x=0->1:stay;target x=20;");
    }

    private void solve() {
        e.says("16: Works out all values: 0, or the refusal, 5 or 6");
        e.due("0", Edges.explored(GAME).solve(), 0);
        e.due("5", Edges.explored("var x:0..41;max x<41->1:(x'=x+1);target x=41;").solve(), 5);
        e.due("6", refused().solve(), 6);
        ChanceArena again = Edges.solved(GAME);
        e.due("again", again.solve() + " " + Edges.fractions(again, 0), "0 1/3 1/3 1 0");
        e.says("16: IllegalStateException when there are no states");
        e.due("a new object", Harness.answer(() -> new ChanceArena().solve()), "IllegalStateException");
        ChanceArena compiled = Edges.compiled(GAME);
        e.due("compiled", Harness.answer(() -> compiled.solve()), "IllegalStateException");
        ChanceArena fault = Edges.explored("target 1/0=1;");
        e.due("a fault", Harness.answer(() -> fault.solve()), "IllegalStateException");
    }

    private void within() {
        e.says("17: IllegalArgumentException, looked at first, when n is not 0 .. 32");
        ChanceArena a = Edges.explored(GAME);
        ChanceArena none = new ChanceArena();
        for (int n : new int[] {-1, 33, LEAST, MOST}) {
            e.due("within(" + n + ")", Harness.answer(() -> a.within(n)), "IllegalArgumentException");
            e.due("without states", Harness.answer(() -> none.within(n)), "IllegalArgumentException");
        }
        for (int n = 0; n <= 32; n++) {
            e.due("within(" + n + ")", a.within(n), 0);
        }
        e.says("17: IllegalStateException when there are no states");
        for (int n : new int[] {0, 1, 32}) {
            e.due("without states", Harness.answer(() -> none.within(n)), "IllegalStateException");
        }
        ChanceArena compiled = Edges.compiled(GAME);
        e.due("compiled", Harness.answer(() -> compiled.within(1)), "IllegalStateException");
        ChanceArena fault = Edges.explored("target 1/0=1;");
        e.due("a fault", Harness.answer(() -> fault.within(1)), "IllegalStateException");
        e.says("17: 0, or 6; then there are none");
        ChanceArena large = Edges.explored("var x:0..99;max x<32->1/32768:(x'=x+1)+32767/32768:(x'=99);target x=32;");
        e.due("0", large.within(31) + " " + large.print(0, 1), "0 1");
        e.due("6", large.within(32) + " " + large.print(0, 1) + " " + large.print(1, 1) + " " + large.billionths(0, 1) + " "
            + large.compare(0, 1, 0, 1), "6 -1 -1 -1 -2");
        e.due("0 again", large.within(0) + " " + large.print(0, 1) + " " + large.compare(0, 1, 0, 1), "0 1 0");
    }

    private void choose() {
        e.says("18: The choice of a state is told (all are their first command before)");
        ChanceArena a = Edges.explored(GAME);
        e.due("before", told(a), " 1 1 2 3 2 2 3 3");
        e.due("the last one", Edges.choose(a, 0, 1) + told(a), "done 2 3 2 3 2 2 3 3");
        e.due("the first one", Edges.choose(a, 0, 0) + told(a), "done 1 1 2 3 2 2 3 3");
        e.says("18: IndexOutOfBoundsException when it has no such command");
        int[][] wrong = {{0, 2}, {0, -1}, {1, 2}, {2, 0}, {3, 0}, {4, 0}, {-1, 0}, {MOST, 0}, {LEAST, 0}, {0, MOST}, {0, LEAST}};
        for (int[] w : wrong) {
            e.due("choose(" + w[0] + ", " + w[1] + ")", Edges.choose(a, w[0], w[1]), "IndexOutOfBoundsException");
        }
        e.due("a new object", Edges.choose(new ChanceArena(), 0, 0), "IndexOutOfBoundsException");
        e.due("compiled", Edges.choose(Edges.compiled(GAME), 0, 0), "IndexOutOfBoundsException");
    }

    private void adopt() {
        e.says("19: All choices become those that were worked out");
        ChanceArena a = Edges.solved(GAME);
        a.choose(0, 1);
        e.due("told", told(a), " 2 3 2 3 2 2 3 3");
        e.due("adopt", Edges.adopt(a) + " " + Edges.choices(a), "done 0 1 -1 -1");
        e.due("the first of max's, the second of min's", a.next(0, 0) + " " + a.next(1, 715827882) + " " + a.next(1, 715827883), "1 2 3");
        e.due("judged by them", a.judge(1) + a.compare(0, 2, 0, 0) + a.judge(2) + a.compare(0, 2, 0, 0), 0);
        e.due("they stay", a.solve() + " " + a.next(1, 715827883), "0 3");
        ChanceArena zero = Edges.solved("var x:0..9;min x=0->1:(x'=1);min x=0->1:stay;max x=1->1:(x'=2);max x=1->1:(x'=3);max x=3->1:(x'=4);max x=2->1:stay;"
            + "target x=4;");
        e.due("of a state of value 0", Edges.adopt(zero) + " " + Edges.choices(zero) + told(zero), "done 1 1 0 0 -1 0 0 3 3 2 2 4 4 4 4");
        e.says("19: IllegalStateException when values were not worked out");
        e.due("a new object", Edges.adopt(new ChanceArena()), "IllegalStateException");
        e.due("compiled", Edges.adopt(Edges.compiled(GAME)), "IllegalStateException");
        ChanceArena b = Edges.explored(GAME);
        b.within(3);
        b.judge(1);
        e.due("explored", Edges.adopt(b), "IllegalStateException");
        b.solve();
        e.due("solved", Edges.adopt(b), "done");
        ChanceArena c = refused();
        c.solve();
        e.due("refused", Edges.adopt(c), "IllegalStateException");
        b.explore();
        e.due("explored again", Edges.adopt(b), "IllegalStateException");
    }

    private void judge() {
        e.says("20: IllegalArgumentException, looked at first, when there is no such player");
        ChanceArena a = Edges.explored(GAME);
        ChanceArena none = new ChanceArena();
        for (int player : new int[] {0, 3, -1, LEAST, MOST}) {
            e.due("judge(" + player + ")", Harness.answer(() -> a.judge(player)), "IllegalArgumentException");
            e.due("without states", Harness.answer(() -> none.judge(player)), "IllegalArgumentException");
        }
        e.says("20: IllegalStateException when there are no states");
        ChanceArena compiled = Edges.compiled(GAME);
        ChanceArena fault = Edges.explored("target 1/0=1;");
        for (int player = 1; player <= 2; player++) {
            int p = player;
            e.due("judge(" + p + ")", Harness.answer(() -> a.judge(p)), 0);
            e.due("a new object", Harness.answer(() -> none.judge(p)), "IllegalStateException");
            e.due("compiled", Harness.answer(() -> compiled.judge(p)), "IllegalStateException");
            e.due("a fault", Harness.answer(() -> fault.judge(p)), "IllegalStateException");
        }
        e.says("20: 0, or the refusal; the choices that are told stay in both cases");
        ChanceArena b = refused();
        b.choose(0, 1);
        e.due("0", b.judge(1) + " " + b.next(0, 0) + " " + Harness.printed(b, 0, 2), "0 0 0");
        e.due("6", b.judge(2) + " " + b.next(0, 0) + " " + Harness.printed(b, 0, 2), "6 0 none");
        e.due("0 again", b.judge(1) + " " + b.next(0, 0) + " " + Harness.printed(b, 0, 2), "0 0 0");
        ChanceArena c = Edges.explored("var x:0..41;max x<41->1:(x'=x+1);target x=41;");
        e.due("5", c.judge(1) + " " + c.judge(2) + " " + c.print(0, 2), "5 5 -1");
    }

    // ------------------------------------------------------------ promises 21 to 28

    private void print() {
        e.says("21: the number above in decimal, and, if that below is not 1, '/' and it: how many characters");
        ChanceArena a = Edges.solved(GAME);
        e.due("1/3", a.print(0, 0) + " " + Harness.printed(a, 0, 0), "3 1/3");
        e.due("1", a.print(2, 0) + " " + Harness.printed(a, 2, 0), "1 1");
        e.due("0", a.print(3, 0) + " " + Harness.printed(a, 3, 0), "1 0");
        for (int below : new int[] {2, 9, 10, 11, 99, 100, 101, 999999999, 1000 * 1000, 100000007}) {
            ChanceArena b = Edges.solved("var x:0..2;max x=0->1/" + below + ":(x'=1)+" + (below - 1) + "/" + below + ":(x'=2);target x=1;");
            e.due("1/" + below, Harness.printed(b, 0, 0), "1/" + below);
            ChanceArena c = Edges.solved("var x:0..2;max x=0->1/" + below + ":(x'=2)+" + (below - 1) + "/" + below + ":(x'=1);target x=1;");
            e.due(below - 1 + "/" + below, Harness.printed(c, 0, 0), below - 1 + "/" + below);
        }
        for (int power : new int[] {1, 2, 3, 5, 8, 15}) {
            for (int base : new int[] {10, 1000, 1 << 29, 999999937}) {
                ChanceArena b = Edges.solved("var x:0..99;max x<" + power + "->1/" + base + ":(x'=x+1)+" + (base - 1) + "/" + base + ":(x'=99);target x="
                    + power + ";");
                e.due(base + "^" + power, Harness.printed(b, 0, 0), "1/" + BigInteger.valueOf(base).pow(power));
                ChanceArena c = Edges.solved("var x:0..99;max x<" + power + "->1/" + base + ":(x'=x+1)+" + (base - 1) + "/" + base + ":(x'=99);"
                    + "target x=99;");
                BigInteger below = BigInteger.valueOf(base).pow(power);
                e.due("1 - 1/" + base + "^" + power, Harness.printed(c, 0, 0), below.subtract(BigInteger.ONE) + "/" + below);
            }
        }
        e.says("21: its value (what 0), WITHIN (1), JUDGED (2), as worked out latest");
        ChanceArena all = Edges.solved(GAME);
        all.within(1);
        all.judge(2);
        e.due("all", Harness.printed(all, 0, 0) + " " + Harness.printed(all, 0, 1) + " " + Harness.printed(all, 0, 2), "1/3 1/4 1/2");
        all.within(2);
        all.judge(1);
        e.due("latest", Harness.printed(all, 0, 0) + " " + Harness.printed(all, 0, 1) + " " + Harness.printed(all, 0, 2), "1/3 1/3 1/3");
        e.says("21: NONE, and what was printed stays");
        all.print(0, 1);
        int[][] wrong = {{-1, 0}, {4, 0}, {4, 1}, {4, 2}, {0, -1}, {0, 3}, {MOST, 0}, {LEAST, 0}, {0, MOST}, {0, LEAST}};
        for (int[] w : wrong) {
            e.due("print(" + w[0] + ", " + w[1] + ")", all.print(w[0], w[1]) + " " + all.character(2) + " " + all.character(3), "-1 51 -1");
        }
        e.says("21: or what it is was not worked out, or was refused last");
        ChanceArena none = Edges.explored(GAME);
        e.due("not worked out", none.print(0, 0) + " " + none.print(0, 1) + " " + none.print(0, 2), "-1 -1 -1");
        none.within(1);
        e.due("WITHIN alone", none.print(0, 0) + " " + none.print(0, 1) + " " + none.print(0, 2), "-1 3 -1");
        none.judge(2);
        e.due("JUDGED, too", none.print(0, 0) + " " + none.print(0, 1) + " " + none.print(0, 2), "-1 3 3");
        none.solve();
        e.due("all", none.print(0, 0) + " " + none.print(0, 1) + " " + none.print(0, 2), "3 3 3");
        ChanceArena last = refused();
        last.choose(0, 1);
        last.judge(1);
        last.within(1);
        e.due("judged", last.print(0, 2) + " " + last.print(0, 1) + " " + last.print(0, 0), "1 1 -1");
        last.judge(2);
        last.solve();
        e.due("refused", last.print(0, 2) + " " + last.print(0, 1) + " " + last.print(0, 0) + " " + last.character(0), "-1 1 -1 48");
        last.within(32);
        e.due("refused, each", last.print(0, 2) + " " + last.print(0, 1) + " " + last.print(0, 0) + " " + last.character(0), "-1 -1 -1 48");
    }

    private void character() {
        e.says("22: Character i of what was printed latest; NONE when there is none");
        ChanceArena a = new ChanceArena();
        e.due("nothing yet", a.character(0) + " " + a.character(-1), "-1 -1");
        Harness.compile(a, GAME);
        a.explore();
        a.solve();
        e.due("nothing yet", a.character(0), -1);
        a.print(0, 0);
        e.due("1/3", a.character(0) + " " + a.character(1) + " " + a.character(2), "49 47 51");
        e.due("none", a.character(3) + " " + a.character(-1) + " " + a.character(MOST) + " " + a.character(LEAST), "-1 -1 -1 -1");
        a.print(3, 0);
        e.due("0", a.character(0) + " " + a.character(1) + " " + a.character(2), "48 -1 -1");
        e.says("22: (whatever was compiled, explored or worked out since)");
        a.print(0, 0);
        a.within(0);
        a.judge(1);
        a.solve();
        e.due("worked out", printedOf(a), "49 47 51 -1 -1");
        a.explore();
        e.due("explored", printedOf(a), "49 47 51 -1 -1");
        Harness.compile(a, "$");
        e.due("a fault", printedOf(a), "49 47 51 -1 -1");
        Harness.compile(a, "target 1=1/0;");
        e.due("compiled", printedOf(a), "49 47 51 -1 -1");
        a.explore();
        e.due("a fault", printedOf(a), "49 47 51 -1 -1");
        e.due("print() that answers NONE", a.print(0, 0) + " " + printedOf(a), "-1 49 47 51 -1 -1");
    }

    private void compare() {
        e.says("23: -1, 0, 1 as the first one's is less, the same, greater");
        ChanceArena a = Edges.solved(GAME);
        a.within(1);
        a.judge(2);
        e.due("of values", a.compare(3, 0, 0, 0) + " " + a.compare(0, 0, 1, 0) + " " + a.compare(2, 0, 1, 0), "-1 0 1");
        e.due("of two sorts", a.compare(0, 1, 0, 0) + " " + a.compare(0, 0, 0, 1) + " " + a.compare(0, 2, 0, 0) + " " + a.compare(2, 0, 2, 2)
            + " " + a.compare(0, 1, 0, 2) + " " + a.compare(1, 1, 0, 0), "-1 1 1 0 -1 0");
        ChanceArena near = Edges.solved("var x:0..9;max x=0->1/2:(x'=1)+1/2:(x'=2);max x=1->999999997/999999998:(x'=3)+1/999999998:(x'=4);"
            + "max x=2->999999998/999999999:(x'=3)+1/999999999:(x'=4);target x=3;");
        e.due("to the last digit", near.compare(1, 0, 2, 0) + " " + near.compare(2, 0, 1, 0) + " " + near.compare(1, 0, 1, 0), "-1 1 0");
        e.says("23: -2 when one of them is none, as for print()");
        int[][] wrong = {{4, 0, 0, 0}, {-1, 0, 0, 0}, {0, 0, 4, 0}, {0, 0, -1, 0}, {0, 3, 0, 0}, {0, -1, 0, 0}, {0, 0, 0, 3}, {0, 0, 0, -1}, {4, 0, 4, 0},
            {MOST, 0, 0, 0}, {0, LEAST, 0, 0}, {0, 0, MOST, 0}, {0, 0, 0, MOST}};
        for (int[] w : wrong) {
            e.due("compare(" + w[0] + ", " + w[1] + ", " + w[2] + ", " + w[3] + ")", a.compare(w[0], w[1], w[2], w[3]), -2);
        }
        ChanceArena b = Edges.explored(GAME);
        b.within(1);
        e.due("not worked out", b.compare(0, 0, 0, 1) + " " + b.compare(0, 1, 0, 0) + " " + b.compare(0, 1, 0, 2) + " " + b.compare(0, 1, 0, 1), "-2 -2 -2 0");
        ChanceArena c = refused();
        c.within(1);
        c.solve();
        e.due("refused", c.compare(0, 0, 0, 1) + " " + c.compare(0, 1, 0, 0) + " " + c.compare(0, 0, 0, 0), "-2 -2 -2");
        e.due("a new object", new ChanceArena().compare(0, 0, 0, 0), -2);
    }

    private static int billionthsOf(String steps) {
        StringBuilder text = new StringBuilder("var x:0..99;");
        String[] all = steps.split(" ");
        for (int i = 0; i < all.length; i++) {
            text.append("max x=").append(i).append("->").append(all[i]).append(":(x'=").append(i + 1).append(")+1-").append(all[i]).append(":(x'=99);");
        }
        return Edges.solved(text + "target x=" + all.length + ";").billionths(0, 0);
    }

    private void billionths() {
        e.says("24: A fraction times 1000000000, rounded down");
        e.due("1", billionthsOf("1"), 1000000000);
        e.due("0", Edges.solved("target false;").billionths(0, 0), 0);
        e.due("1/2", billionthsOf("1/2"), 500000000);
        e.due("1/3", billionthsOf("1/3"), 333333333);
        e.due("2/3", billionthsOf("2/3"), 666666666);
        e.due("one billionth", billionthsOf("1/1000 1/1000 1/1000"), 1);
        e.due("just below", billionthsOf("1/1000 1/1000 1/1001"), 0);
        e.due("just below 2", billionthsOf("1/1000 1/1000 2/1001"), 1);
        e.due("just above", billionthsOf("1/1000 1/1000 1/999"), 1);
        e.due("1/999999999", billionthsOf("1/999999999"), 1);
        e.due("1 - 1/999999999", billionthsOf("999999998/999999999"), 999999998);
        e.due("10^-15", billionthsOf("1/100000 1/100000 1/100000"), 0);
        e.due("many digits", billionthsOf("999999936/999999937 999999936/999999937 999999936/999999937"), 999999996);
        ChanceArena near = Edges.solved("var x:0..99;max x<2->1/100000:(x'=x+1)+99999/100000:(x'=99);target x=99;");
        e.due("1 - 10^-10", near.billionths(0, 0), 999999999);
        e.says("24: NONE as for print()");
        ChanceArena a = Edges.solved(GAME);
        int[][] wrong = {{-1, 0}, {4, 0}, {0, -1}, {0, 3}, {0, 1}, {0, 2}, {MOST, 0}, {LEAST, 0}, {0, MOST}, {0, LEAST}};
        for (int[] w : wrong) {
            e.due("billionths(" + w[0] + ", " + w[1] + ")", a.billionths(w[0], w[1]), -1);
        }
        ChanceArena b = refused();
        b.solve();
        e.due("refused", b.billionths(0, 0), -1);
        e.due("a new object", new ChanceArena().billionths(0, 0), -1);
    }

    private void choice() {
        e.says("25: The choice of a state that was worked out; NONE when it has no commands, there is no such state, or values were not worked out");
        ChanceArena a = Edges.explored(GAME);
        a.judge(1);
        a.within(1);
        e.due("not worked out", a.choice(0) + " " + a.choice(1), "-1 -1");
        a.solve();
        e.due("choices", Edges.choices(a), "0 1 -1 -1");
        e.due("no state", a.choice(4) + " " + a.choice(-1) + " " + a.choice(MOST) + " " + a.choice(LEAST), "-1 -1 -1 -1");
        a.choose(0, 1);
        e.due("what is told is another one", a.choice(0), 0);
        a.explore();
        e.due("gone", a.choice(0), -1);
        ChanceArena b = refused();
        b.solve();
        e.due("refused", b.choice(0), -1);
        e.due("a new object", new ChanceArena().choice(0), -1);
        e.says("25: as i of command() and choose()");
        ChanceArena c = Edges.solved("var x:0..2;max x=1->1:stay;max x=0->1:stay;max x=0->1:(x'=2);target x=2;");
        e.due("i", c.choice(0) + " " + c.command(0, c.choice(0)) + " " + Edges.choose(c, 0, c.choice(0)) + " " + c.next(0, 0), "1 2 done 1");
    }

    private void rank() {
        e.says("26: The rank of a state; NONE when it has none, or values were not worked out");
        ChanceArena a = Edges.explored(GAME);
        a.judge(1);
        a.within(1);
        e.due("not worked out", a.rank(0) + " " + a.rank(2), "-1 -1");
        a.solve();
        e.due("ranks", Edges.ranks(a), "2 1 0 -1");
        e.due("no state", a.rank(4) + " " + a.rank(-1) + " " + a.rank(MOST) + " " + a.rank(LEAST), "-1 -1 -1 -1");
        a.explore();
        e.due("gone", a.rank(0) + " " + a.rank(2), "-1 -1");
        ChanceArena b = refused();
        b.solve();
        e.due("refused", b.rank(0) + " " + b.rank(b.states() - 1), "-1 -1");
        e.due("a new object", new ChanceArena().rank(0), -1);
    }

    private void next() {
        e.says("27: the first of its branches with which the chances up to it together are above r / 2^31");
        ChanceArena half = Edges.explored("var x:0..2;max x=0->1/2:(x'=1)+1/2:(x'=2);target false;");
        e.due("1/2", half.next(0, 0) + " " + half.next(0, (1 << 30) - 1) + " " + half.next(0, 1 << 30) + " " + half.next(0, MOST), "1 1 2 2");
        ChanceArena quarters = Edges.explored("var x:0..4;max x=0->1/4:(x'=1)+1/4:(x'=2)+1/4:(x'=3)+1/4:(x'=4);target false;");
        int quarter = 1 << 29;
        e.due("1/4", quarters.next(0, quarter - 1) + " " + quarters.next(0, quarter) + " " + quarters.next(0, 2 * quarter - 1) + " "
            + quarters.next(0, 2 * quarter) + " " + quarters.next(0, 3 * quarter - 1) + " " + quarters.next(0, 3 * quarter) + " "
            + quarters.next(0, MOST), "1 2 2 3 3 4 4");
        // 2^31 / 3 is 715827882.67, two thirds are 1431655765.33.
        ChanceArena thirds = Edges.explored("var x:0..3;max x=0->1/3:(x'=1)+1/3:(x'=2)+1/3:(x'=3);target false;");
        e.due("1/3", thirds.next(0, 715827882) + " " + thirds.next(0, 715827883) + " " + thirds.next(0, 1431655765) + " " + thirds.next(0, 1431655766),
            "1 2 2 3");
        // 2^31 / 999999999 is 2.147.
        ChanceArena small = Edges.explored("var x:0..2;max x=0->1/999999999:(x'=1)+999999998/999999999:(x'=2);target false;");
        e.due("1/999999999", small.next(0, 0) + " " + small.next(0, 2) + " " + small.next(0, 3) + " " + small.next(0, MOST), "1 1 2 2");
        ChanceArena late = Edges.explored("var x:0..2;max x=0->999999998/999999999:(x'=1)+1/999999999:(x'=2);target false;");
        e.due("998", late.next(0, MOST - 2) + " " + late.next(0, MOST - 1) + " " + late.next(0, MOST), "1 2 2");
        ChanceArena sure = Edges.explored("var x:0..2;max x=0->0:(x'=2)+1:(x'=1);target false;");
        e.due("1", sure.next(0, 0) + " " + sure.next(0, MOST), "1 1");
        ChanceArena joined = Edges.explored("var x:0..2;max x=0->1/4:(x'=1)+0:stay+1/2:(x'=2)+1/4:(x'=1);target false;");
        e.due("joined branches have both chances", joined.next(0, quarter) + " " + joined.next(0, 2 * quarter - 1) + " " + joined.next(0, 2 * quarter) + " "
            + joined.next(0, MOST), "1 1 2 2");
        e.says("27: a state's told choice");
        ChanceArena a = Edges.solved(GAME);
        e.due("the first one", a.next(0, 0), 1);
        a.choose(0, 1);
        e.due("the second one", a.next(0, 0) + " " + a.next(0, quarter - 1) + " " + a.next(0, quarter), "2 2 3");
        e.says("27: the state itself when it has no commands");
        e.due("a target, an end", a.next(2, 0) + " " + a.next(3, 0) + " " + a.next(2, MOST) + " " + a.next(3, MOST), "2 3 2 3");
        e.says("27: NONE when there is no such state, or r is below 0");
        e.due("no state", a.next(4, 0) + " " + a.next(-1, 0) + " " + a.next(MOST, 0) + " " + a.next(LEAST, 0), "-1 -1 -1 -1");
        e.due("below 0", a.next(0, -1) + " " + a.next(2, -1) + " " + a.next(0, LEAST) + " " + a.next(3, LEAST), "-1 -1 -1 -1");
        e.due("a new object", new ChanceArena().next(0, 0), -1);
    }

    private void check() {
        e.says("28: 1, if each state's value is what part 6 wants of it; NONE when values were not worked out");
        ChanceArena a = Edges.explored(GAME);
        a.within(3);
        a.judge(1);
        e.due("not worked out", a.check(), -1);
        a.solve();
        e.due("holds", a.check(), 1);
        a.choose(0, 1);
        a.judge(1);
        a.within(0);
        e.due("holds", a.check(), 1);
        Harness.compile(a, "$");
        e.due("a fault", a.check(), 1);
        a.explore();
        e.due("gone", a.check(), -1);
        a.solve();
        Harness.compile(a, GAME);
        e.due("gone", a.check(), -1);
        ChanceArena b = refused();
        b.solve();
        e.due("refused", b.check(), -1);
        e.due("a new object", new ChanceArena().check(), -1);
        e.due("one state", Edges.solved("target true;").check() + " " + Edges.solved("target false;").check(), "1 1");
        e.due("forty states", Edges.solved("var x:0..99;max x<40->1/2048:(x'=x+1)+2047/2048:(x'=0);target x=40;").check(), 1);
    }

    // ------------------------------------------------------------ what a call changes

    interface Call {
        Object on(ChanceArena a);
    }

    private void changes(String call, String want, Call what) {
        ChanceArena a = full();
        List<String> before = seen(a);
        Harness.answer(() -> what.on(a));
        e.due(call + " changes", changed(before, seen(a)), want);
    }

    private void whatChanges() {
        e.says("what stays and what is gone after a call");
        changes("nothing", "", a -> 0);
        changes("feed()", "tape", a -> a.feed(1, 2, 3, 4, 5));
        changes("end()", "tape", a -> a.feed(1, 2, 3, 4, 5) + a.end(3));
        changes("compile()", "tape items place states values within judged told", a -> a.compile());
        changes("compile() with a fault", "tape place", a -> a.feed(1, 2, 3, 4, 5) + a.compile());
        changes("explore()", "place values within judged told", a -> a.explore());
        changes("explore() with a fault", "tape items place state states values within judged told", a -> {
            a.compile();
            Harness.compile(a, "target 1/0=1;");
            return a.explore();
        });
        changes("solve()", "", a -> a.solve());
        changes("within()", "within", a -> a.within(2));
        changes("choose()", "told", a -> {
            a.choose(0, 0);
            return 0;
        });
        changes("adopt()", "told", a -> {
            a.adopt();
            return 0;
        });
        changes("judge(1)", "judged", a -> a.judge(1));
        changes("judge(2)", "", a -> a.judge(2));
        changes("print()", "printed", a -> a.print(0, 0));
        changes("print() that answers NONE", "", a -> a.print(9, 0));
        changes("what only asks", "", a -> a.place() + a.items(0) + a.state() + a.states() + a.variable(0, 0) + a.kind(0) + a.commands(0) + a.command(0, 0)
            + a.branches(0, 0) + a.branch(0, 0, 0, 0) + a.character(0) + a.compare(0, 0, 0, 1) + a.billionths(0, 0) + a.choice(0) + a.rank(0)
            + a.next(0, 0) + a.check());
        e.says("what a refusal leaves");
        ChanceArena a = refused();
        a.choose(0, 1);
        a.judge(1);
        a.within(1);
        a.print(0, 1);
        List<String> before = seen(a);
        e.due("solve()", a.solve() + " " + changed(before, seen(a)), "6 ");
        e.due("judge(2)", a.judge(2) + " " + changed(before, seen(a)), "6 judged");
        e.due("within(32)", a.within(32) + " " + changed(before, seen(a)), "6 within judged");
        e.due("judge(1)", a.judge(1) + " " + changed(before, seen(a)), "0 within");
    }

    private void throwsAndLeaves(String call, String exception, ChanceArena a, Call what) {
        List<String> before = seen(a);
        e.due(call, Harness.answer(() -> what.on(a)), exception);
        e.due(call + " changes", changed(before, seen(a)), "");
    }

    private static int chosen(ChanceArena a, int k, int i) {
        a.choose(k, i);
        return 0;
    }

    private static int adopted(ChanceArena a) {
        a.adopt();
        return 0;
    }

    private void whatThrows() {
        e.says("6: What throws changes nothing");
        String argument = "IllegalArgumentException";
        String state = "IllegalStateException";
        String index = "IndexOutOfBoundsException";
        throwsAndLeaves("end(-1)", argument, full(), a -> a.end(-1));
        throwsAndLeaves("end(21)", argument, full(), a -> a.end(21));
        throwsAndLeaves("end(12) of twelve", argument, full(), a -> a.end(12));
        throwsAndLeaves("end(0) of twelve", argument, full(), a -> a.end(0));
        throwsAndLeaves("variable(4, 0)", index, full(), a -> a.variable(4, 0));
        throwsAndLeaves("variable(0, 2)", index, full(), a -> a.variable(0, 2));
        throwsAndLeaves("within(-1)", argument, full(), a -> a.within(-1));
        throwsAndLeaves("within(33)", argument, full(), a -> a.within(33));
        throwsAndLeaves("choose(0, 2)", index, full(), a -> chosen(a, 0, 2));
        throwsAndLeaves("choose(0, -1)", index, full(), a -> chosen(a, 0, -1));
        throwsAndLeaves("choose(2, 0)", index, full(), a -> chosen(a, 2, 0));
        throwsAndLeaves("choose(4, 0)", index, full(), a -> chosen(a, 4, 0));
        throwsAndLeaves("judge(0)", argument, full(), a -> a.judge(0));
        throwsAndLeaves("judge(3)", argument, full(), a -> a.judge(3));
        throwsAndLeaves("explore()", state, Edges.compiled("target 1;"), a -> a.explore());
        throwsAndLeaves("adopt()", state, Edges.explored(GAME), a -> adopted(a));
        ChanceArena stuck = full();
        stuck.compile();
        Harness.compile(stuck, "target 1/0=1;");
        stuck.explore();
        throwsAndLeaves("solve()", state, stuck, a -> a.solve());
        throwsAndLeaves("within(3)", state, stuck, a -> a.within(3));
        throwsAndLeaves("judge(1)", state, stuck, a -> a.judge(1));
        throwsAndLeaves("adopt()", state, stuck, a -> adopted(a));
        throwsAndLeaves("choose(0, 0)", index, stuck, a -> chosen(a, 0, 0));
        throwsAndLeaves("variable(0, 0)", index, stuck, a -> a.variable(0, 0));
        ChanceArena judged = refused();
        judged.choose(0, 1);
        judged.judge(1);
        judged.solve();
        throwsAndLeaves("adopt() after a refusal", state, judged, a -> adopted(a));
        ChanceArena tape = new ChanceArena();
        throwsAndLeaves("end(20) of none", argument, tape, a -> a.end(20));
    }
}
