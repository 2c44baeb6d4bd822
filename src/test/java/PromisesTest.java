import java.math.BigInteger;
import java.util.Random;

/** Each promise of the document: ordinary inputs, the edges that it names, and wrong inputs. */
public final class PromisesTest {
    private final Harness t = new Harness();

    private static final String COIN = "var x:0..2; max x=0->1/2:(x'=1)+1/2:(x'=2); max x=0->1/3:(x'=1)+2/3:(x'=2); target x=1;";
    private static final String DUEL = "var x:0..3; max x=0->1:(x'=1); max x=0->3/10:(x'=3)+7/10:(x'=2); "
        + "min x=1->1:(x'=0); min x=1->6/10:(x'=3)+4/10:(x'=2); target x=3;";

    public static void main(String[] args) {
        PromisesTest test = new PromisesTest();
        test.newObject();
        test.feed();
        test.end();
        test.compile();
        test.place();
        test.items();
        test.explore();
        test.state();
        test.states();
        test.variable();
        test.kindAndCommands();
        test.branches();
        test.solve();
        test.within();
        test.choose();
        test.adopt();
        test.judge();
        test.print();
        test.compareAndBillionths();
        test.choiceAndRank();
        test.next();
        test.check();
        test.t.finish();
    }

    private static ChanceArena explored(String text) {
        ChanceArena arena = new ChanceArena();
        Harness.compile(arena, text);
        arena.explore();
        return arena;
    }

    private static ChanceArena solved(String text) {
        ChanceArena arena = explored(text);
        arena.solve();
        return arena;
    }

    private void newObject() {
        ChanceArena a = new ChanceArena();
        t.due("1 NONE", ChanceArena.NONE, -1);
        t.due("1 place", a.place(), -1);
        t.due("1 items", a.items(0) + " " + a.items(1) + " " + a.items(2), "-1 -1 -1");
        t.due("1 state", a.state(), -1);
        t.due("1 states", a.states(), 0);
        t.due("1 kind", a.kind(0), -1);
        t.due("1 commands", a.commands(0), -1);
        t.due("1 command", a.command(0, 0), -1);
        t.due("1 branches", a.branches(0, 0), -1);
        t.due("1 branch", a.branch(0, 0, 0, 0), -1);
        t.due("1 print", a.print(0, 0), -1);
        t.due("1 character", a.character(0), -1);
        t.due("1 compare", a.compare(0, 0, 0, 0), -2);
        t.due("1 billionths", a.billionths(0, 0), -1);
        t.due("1 choice", a.choice(0), -1);
        t.due("1 rank", a.rank(0), -1);
        t.due("1 next", a.next(0, 0), -1);
        t.due("1 check", a.check(), -1);
        t.due("1 explore", Harness.answer(() -> a.explore()), "IllegalStateException");
        t.due("1 solve", Harness.answer(() -> a.solve()), "IllegalStateException");
        t.due("1 within", Harness.answer(() -> a.within(0)), "IllegalStateException");
        t.due("1 judge", Harness.answer(() -> a.judge(1)), "IllegalStateException");
        t.due("1 variable", Harness.answer(() -> a.variable(0, 0)), "IndexOutOfBoundsException");
        t.due("1 end", Harness.answer(() -> a.end(0)), "IllegalArgumentException");
        t.due("1 adopt", adopted(a), "IllegalStateException");
        t.due("1 choose", chosen(a, 0, 0), "IndexOutOfBoundsException");
        t.due("1 the tape is empty", a.compile() + "@" + a.place(), "10@0");
    }

    private static Object adopted(ChanceArena a) {
        return Harness.answer(() -> {
            a.adopt();
            return "done";
        });
    }

    private static Object chosen(ChanceArena a, int k, int i) {
        return Harness.answer(() -> {
            a.choose(k, i);
            return "done";
        });
    }

    private void feed() {
        ChanceArena a = new ChanceArena();
        t.due("2 feed", a.feed(0x76617220, 0x783a302e, 0x2e313b20, 0x74617267, 0x65742021), 20);
        t.due("2 feed", a.feed(0x783d313b, 0, 0, 0, 0), 40);
        a.end(4);
        t.due("2 highest byte first", a.compile() + "@" + a.place() + "@" + a.items(0), "0@-1@1");
        for (int i = 1; i <= 819; i++) {
            t.due("2 feed", a.feed(0x20202020, 0x20202020, 0x20202020, 0x20202020, 0x20202020), 20 * i);
        }
        t.due("2 feed more than 16384", a.feed(0, 0, 0, 0, 0), -1);
        t.due("2 nothing is done", a.end(5), 16365);
        t.due("2 feed more than 16384", a.feed(0, 0, 0, 0, 0), -1);
        t.due("2 blanks", a.end(19), 16364);
        t.due("2 feed to 16384", a.feed(0x20202020, 0x20202020, 0x20202020, 0x20202020, 0x20202020), 16384);
        t.due("2 feed more than 16384", a.feed(0, 0, 0, 0, 0), -1);
        t.due("2 blanks alone", a.compile() + "@" + a.place(), "10@16384");
        t.due("2 the tape is empty", a.feed(0, 0, 0, 0, 0), 20);
        a.end(0);
        a.feed(0x00ff80e9, -1, -1, -1, -1);
        t.due("2 bytes are characters", a.compile() + "@" + a.place(), "1@0");
    }

    private void end() {
        ChanceArena a = new ChanceArena();
        t.due("3 not twenty", Harness.answer(() -> a.end(20)), "IllegalArgumentException");
        a.feed(0, 0, 0, 0, 0);
        t.due("3 below 0", Harness.answer(() -> a.end(-1)), "IllegalArgumentException");
        t.due("3 above 20", Harness.answer(() -> a.end(21)), "IllegalArgumentException");
        t.due("3 all of them", a.end(20), 20);
        t.due("3 some", a.end(7), 7);
        t.due("3 not twenty any more", Harness.answer(() -> a.end(7)), "IllegalArgumentException");
        t.due("3 nothing changed", a.feed(0, 0, 0, 0, 0), 27);
        t.due("3 none", a.end(0), 7);
    }

    private void fault(String text, String want) {
        t.due("4 compile of " + text, Harness.fault(new ChanceArena(), text), want);
    }

    private static String times(String part, int count) {
        return part.repeat(count);
    }

    private void compile() {
        fault("target true;", "0@-1");
        fault("", "10@0");
        fault("const a=1;  ", "10@12");
        words();
        levels();
        names();
        kinds();
        twiceAndMany();
        numbers();
        ChanceArena a = solved(DUEL);
        a.within(2);
        a.judge(1);
        t.due("4 a fault", Harness.fault(a, "target 1;"), "3@7");
        t.due("4 all stays", a.items(0) + " " + a.states() + " " + Harness.printed(a, 0, 0) + " " + a.check()
            + " " + Harness.printed(a, 0, 1) + " " + Harness.printed(a, 0, 2), "1 4 3/10 1 3/10 0");
        t.due("4 the tape is empty", a.compile() + "@" + a.place(), "10@0");
        t.due("4 a new text", Harness.fault(a, "target true;"), "0@-1");
        t.due("4 all is gone", a.items(0) + " " + a.states() + " " + Harness.printed(a, 0, 0) + " " + a.check()
            + " " + Harness.printed(a, 0, 1) + " " + Harness.printed(a, 0, 2), "0 0 none -1 none none");
        t.due("4 there are no states", Harness.answer(() -> a.solve()), "IllegalStateException");
    }

    private void words() {
        String forty = times("a", 40);
        fault("const " + forty + "=1;target true;", "0@-1");
        fault("const " + forty + "a=1;target true;", "1@6");
        fault("const a=999999999;target true;", "0@-1");
        fault("const a=0999999999;target true;", "1@8");
        fault("const a=12ab;target true;", "1@10");
        fault("const a=1_;target true;", "1@9");
        fault("const _a=1;target true;", "1@6");
        fault("const a=1.;target true;", "1@9");
        fault("const a=1;#;;;\n target true;#", "0@-1");
        fault("const a=1;#;;; target true;", "10@27");
        fault("const\ta\r=\n1 ;target true;", "0@-1");
        fault("const\u000ba=1;target true;", "1@5");
        fault("const A=1;const a=2;target A!=a;", "0@-1");
        fault("Const a=1;target true;", "1@0");
        fault("const aAzZ_09=1;const z=2;const Z=3;const A=4;const z0189=5;target z+Z+A+aAzZ_09+z0189=15;", "0@-1");
        for (char c : new char[] {'@', '[', '`', '{', '/', '"', '$', '\\', '^', '~', 0, 127, 128, 255}) {
            fault("const a" + c + "=1;target true;", "1@7");
            fault("const " + c + "a=1;target true;", "1@6");
        }
        fault("const least=1;target true;", "1@6");
        fault("var x:0...1;target true;", "1@9");
        fault("target true", "1@11");
        fault("target true;;", "1@12");
        fault("target 1<2<3;", "1@10");
        fault("target 1=!true;", "1@9");
        fault("target !1=2;", "0@-1");
        fault("target !true=false;", "0@-1");
        fault("target true?1:2;", "3@7");
        fault("target -!true;", "1@8");
        fault("const a=least;target true;", "1@13");
        fault("const a=least();target true;", "1@14");
        fault("const a=least(1);target a=1;", "0@-1");
        fault("const a=(1,2);target true;", "1@10");
        fault("const a=true?1;target true;", "1@14");
        fault("const a=true?1:;target true;", "1@15");
        fault("max true->true?1:2:stay;target true;", "1@14");
        fault("max true->1:stay&(x'=1);target true;", "1@16");
        fault("max true->1:;target true;", "1@12");
        fault("max true->1:(x=1);target true;", "1@14");
        fault("var x:0..1;max true->1:(x'=1)+;target true;", "1@30");
        fault("var x:bool..1;target true;", "1@10");
        fault("var x:0..1 init;target true;", "1@15");
        fault("target unknown; const", "1@21");
        fault("init true->1:stay;target true;", "1@0");
        fault("bool true->1:stay;target true;", "1@0");
        fault("x=1;target true;", "1@0");
        fault("var x:0->1;target true;", "1@7");
        fault("var x:0:1;target true;", "1@7");
        fault("var x:var;target true;", "1@6");
        fault("var x=0..1;target true;", "1@5");
        fault("var x:0..1 min 1;target true;", "1@11");
        fault("var:0..1;target true;", "1@3");
        fault("const a:1;target true;", "1@7");
        fault("const a=1,target true;", "1@9");
        fault("max true..1:stay;target true;", "1@8");
        fault("max true->1;stay;target true;", "1@11");
        fault("var x:0..1;max true->1:(x'=1;target true;", "1@28");
        fault("var x:0..1;max true->1:(x'=1,2);target true;", "1@28");
        fault("var x:0..1;max true->1:x'=1;target true;", "1@23");
        fault("var x:0..1;max true->1:(x'=1)&stay;target true;", "1@30");
        fault("var x:0..1;max true->1:(x'=1)|(x'=1);target true;", "1@29");
        fault("var x:0..1;max true->1:(1'=1);target true;", "1@24");
        fault("target (true;", "1@12");
        fault("target true);", "1@11");
        fault("target true true;", "1@12");
        fault("target 1=1=1;", "1@10");
        fault("target 1 2;", "1@9");
        fault("target;", "1@6");
        fault("target +1=1;", "1@7");
        fault("target 1=+1;", "1@9");
        fault("target true:false;", "1@11");
        fault("target true ? true;", "1@18");
        fault("target true, true;", "1@11");
    }

    private void levels() {
        for (String open : new String[] {"-", "(", "least(", "true?"}) {
            boolean ask = open.equals("true?");
            String close = open.endsWith("(") ? ")" : ask ? ":1" : "";
            fault("const a=" + times(open, 40) + "1" + times(close, 40) + ";target true;", "0@-1");
            fault("const a=" + times(open, 41) + "1" + times(close, 41) + ";target true;",
                "1@" + (8 + 41 * open.length() - 1));
        }
        fault("const a=" + times("!", 40) + "true;target a;", "0@-1");
        fault("const a=" + times("!", 41) + "true;target a;", "1@48");
        fault("const a=" + times("true?1:", 40) + "1;target true;", "0@-1");
        fault("const a=" + times("true?1:", 41) + "1;target true;", "1@" + (8 + 7 * 40 + 4));
        fault("const a=" + times("-", 40) + "1+" + times("-", 40) + "1;target true;", "0@-1");
        fault("const a=(" + times("-", 39) + "1)*(" + times("-", 40) + "1);target true;", "1@" + (8 + 1 + 39 + 4 + 39));
        fault("const a=" + times("!", 40) + "true&" + times("!", 40) + "true|(" + times("!", 39) + "true);target a;", "0@-1");
        fault("const a=" + times("!", 40) + "true?1:2;target true;", "0@-1");
        fault("const a=" + times("!", 40) + "1=-1;target true;", "1@50");
        fault("var x:0..1;max true->1:(x'=" + times("-", 39) + "1);target true;", "0@-1");
        fault("var x:0..1;max true->1:(x'=" + times("-", 40) + "1);target true;", "1@66");
        fault("var x:0..1;max true->1:(x'=1)&(x'=" + times("(", 40) + "1", "1@73");
        fault("const a=(true?" + times("(", 38) + "1" + times(")", 38) + ":" + times("-", 38) + "1);target true;", "0@-1");
        fault("const a=(true?1:" + times("-", 39) + "1);target true;", "1@" + (16 + 38));
        // What is over counts no more, and what is no level never counts.
        String[] over = {"1+1", "2*1/3%1", "(1)", "-1", "least(1,2)", "(1=1?1:2)", "(!true?1:2)", "(true&!false|true?1:2)", "(1<2?-1:-2)"};
        for (String rule : over) {
            String text = "const a=" + rule + "+" + rule + "-" + times("(", 40) + "1";
            String closed = times(")", 40) + ";target true;";
            fault(text + closed, rule.startsWith("2*1/3") ? "8@13" : "0@-1");
            fault("const a=" + rule + "+" + rule + "-" + times("(", 41) + "1)" + closed, "1@" + (text.length() - 1));
        }
    }

    private void names() {
        fault("const a=a;target true;", "2@8");
        fault("const a=b;const b=1;target true;", "2@8");
        fault("const a=1;const a=2;target true;", "2@16");
        fault("const a=1;var a:0..1;target true;", "2@14");
        fault("var x:0..1;const a=x;target true;", "2@19");
        fault("formula f=1;const a=f;target true;", "2@20");
        fault("formula f=1;var x:0..f;target true;", "2@21");
        fault("var y:0..1;var x:y..3;target true;", "2@17");
        fault("var y:0..1;var x:0..3 init y;target true;", "2@27");
        fault("var x:0..1;formula f=x;formula g=f+x;target g=2;", "0@-1");
        fault("formula f=x;var x:0..1;target true;", "2@10");
        fault("const c=1;max true->1:(c'=1);target true;", "2@23");
        fault("formula c=1;max true->1:(c'=1);target true;", "2@25");
        fault("max true->1:(c'=1);target true;", "2@13");
        fault("target x=1;var x:0..1;", "2@7");
        fault("const a=true+b;target true;", "2@13");
        fault("const a=1?b:2;target true;", "2@10");
        fault("const a=least(true,b);target true;", "2@19");
        fault("const a=true+1+b;target true;", "3@12");
        fault("const a=true|1|b;target true;", "3@12");
        fault("const a=1+true*b;target true;", "2@15");
    }

    private void kinds() {
        fault("const a=1+true;target true;", "3@9");
        fault("const a=-true;target true;", "3@8");
        fault("const a=1+-true;target true;", "3@10");
        fault("const a=!1;target true;", "3@8");
        fault("const a=!!1;target true;", "3@9");
        fault("const a=1&true;target true;", "3@9");
        fault("const a=true|1;target true;", "3@12");
        fault("const a=true=1;target true;", "3@12");
        fault("const a=(true=false)!=(1=2);target a;", "0@-1");
        fault("const a=true<false;target true;", "3@12");
        fault("const a=least(1,true);target true;", "3@8");
        fault("const a=1+most(1,true,2);target true;", "3@10");
        fault("const a=1?1:2;target true;", "3@9");
        fault("const a=true?1:true;target true;", "3@12");
        fault("const a=true?true:1;target true;", "3@12");
        fault("target 1;", "3@7");
        fault("target (1);", "3@7");
        fault("max 1->1:stay;target true;", "3@4");
        fault("max true->true:stay;target true;", "3@10");
        fault("max true->(true):stay;target true;", "3@10");
        fault("var x:true..1;target true;", "3@6");
        fault("var x:0..true;target true;", "3@9");
        fault("var x:true..b;target true;", "3@6");
        fault("var x:0..1 init true;target true;", "3@16");
        fault("var x:bool init 1;target true;", "3@16");
        fault("var x:bool init 1=1;target x;", "0@-1");
        fault("var x:bool;max true->1:(x'=1);target x;", "3@27");
        fault("var x:0..1;max true->1:(x'=true);target x=1;", "3@27");
        fault("var x:0..1;target x;", "3@18");
        fault("formula f=true;target f+1=2;", "3@23");
    }

    private void twiceAndMany() {
        fault("var x:0..1;var y:0..1;max true->1:(x'=1)&(y'=1)&(x'=y);target true;", "4@49");
        fault("var x:0..1;max true->1/2:(x'=1)+1/2:(x'=0);target true;", "0@-1");
        fault("target true;target false;", "4@12");
        fault("target true;target 1;", "4@12");
        fault("target true;target ;", "1@19");
        StringBuilder vars = new StringBuilder();
        for (int i = 0; i < 12; i++) {
            vars.append("var v").append(i).append(":bool;");
        }
        fault(vars + "target true;", "0@-1");
        fault(vars + "var v0:bool;target true;", "5@" + vars.length());
        StringBuilder consts = new StringBuilder();
        for (int i = 0; i < 60; i++) {
            consts.append(i % 2 == 0 ? "const c" : "formula c").append(i).append("=1;");
        }
        fault(consts + "target true;", "0@-1");
        fault(consts + "const c0=x;target true;", "5@" + consts.length());
        fault(consts + "formula c0=x;target true;", "5@" + consts.length());
        String commands = times("max true->1:stay;", 60);
        fault(commands + "target true;", "0@-1");
        fault(commands + " min 1->1:stay;target true;", "5@" + (commands.length() + 1));
        String branches = "max true->" + times("1/8:stay+", 7) + "1/8:stay";
        fault(branches + ";target true;", "0@-1");
        fault(branches + "+ x:stay;target true;", "5@" + (branches.length() + 2));
        fault("max true->" + times("1/8:stay+", 7) + "y:stay+x:stay;target true;", "2@73");
        fault(branches + "+1/8:stay+1/8:stay;target true;", "5@" + (branches.length() + 1));
    }

    private void numbers() {
        fault("const a=999999999+1;target true;", "6@17");
        fault("const a=-999999999-1;target true;", "6@18");
        fault("const a=1000000*1000;target true;", "6@15");
        fault("const a=1/31623/31623;target true;", "6@15");
        fault("const a=1/31622/31622;target true;", "0@-1");
        fault("const a=999999999*2/2;target true;", "6@17");
        fault("const a=1/100000/10000;target true;", "6@16");
        fault("const a=1/99999/10000;target true;", "0@-1");
        fault("const a=-100000*10000;target true;", "6@15");
        fault("const a=999999999/7*7/3;target true;", "0@-1");
        fault("const a=1/0;target true;", "7@9");
        fault("const a=1%0;target true;", "7@9");
        fault("const a=1%-1;target true;", "7@9");
        fault("const a=1/2%0;target true;", "8@11");
        fault("const a=1%(1/2);target true;", "8@9");
        fault("const a=false&1/0=1;target true;", "0@-1");
        fault("const a=true|1/0=1;target true;", "0@-1");
        fault("const a=true&1/0=1;target true;", "7@14");
        fault("const a=true?1:1/0;target true;", "0@-1");
        fault("const a=least(1,1/0);target true;", "7@17");
        fault("const a=1/0;const b=x;target true;", "7@9");
        fault("const a=1/0+x;target true;", "2@12");
        fault("var x:1/2..1;target true;", "8@6");
        fault("var x:0..1/2;target true;", "8@9");
        fault("var x:1/2..1/0;target true;", "8@6");
        fault("var x:0..1 init 1/2;target true;", "8@16");
        fault("var x:1..0 init 1/0;target true;", "9@9");
        fault("var x:0..9999;target true;", "0@-1");
        fault("var x:0..10000;target true;", "9@9");
        fault("var x:-999999999..999999999;target true;", "9@18");
        fault("var x:-5..5 init -6;target true;", "9@17");
        fault("var x:-5..5 init 6;target true;", "9@17");
        fault("var x:-5..5 init -5;target x=-5;", "0@-1");
        fault("var b:bool init 1/0=1;target true;", "7@17");
        fault("formula f=1/0;target true;", "0@-1");
        t.due("4 floor", remainder("-7%3"), 2);
        t.due("4 floor", remainder("7%3"), 1);
        t.due("4 floor", remainder("-6%3"), 0);
        t.due("4 from the left", remainder("7-3-2"), 2);
        t.due("4 from the left", remainder("12/2/3"), 2);
        t.due("4 tighter", remainder("1+2*3"), 7);
        t.due("4 sign", remainder("-2*-3+4%3"), 7);
        t.due("4 least", remainder("least(4,3/2*2,9)"), 3);
        t.due("4 most", remainder("most(4,19/2*2-10,-9)"), 9);
        t.due("4 ask", remainder("1>2?1:2>1?2:3"), 2);
        t.due("4 truths", remainder("!true=false&true|false?1:0"), 1);
    }

    private int remainder(String rule) {
        ChanceArena a = explored("var x:-9..9 init " + rule + ";target true;");
        return a.states() == 0 ? -99 : a.variable(0, 0);
    }

    private void place() {
        ChanceArena a = new ChanceArena();
        Harness.compile(a, "target 1;");
        t.due("5 of compile", a.place(), 7);
        Harness.compile(a, "var x:0..1;max true->1:(x'=x+1);target false;");
        t.due("5 none", a.place(), -1);
        a.explore();
        t.due("5 of explore", a.place(), 23);
        t.due("5 stays when explore is not called", a.states() + " " + a.place(), "0 23");
        Harness.compile(a, "target true;");
        t.due("5 none", a.place(), -1);
    }

    private void items() {
        ChanceArena a = new ChanceArena();
        Harness.compile(a, "target 1;");
        t.due("6 no text", a.items(0), -1);
        Harness.compile(a, "const a=1;const b=2;formula f=a;var x:0..1;max true->1:stay;min x=1->1:stay;target true;");
        t.due("6 items", a.items(0) + " " + a.items(1) + " " + a.items(2) + " " + a.items(3) + " " + a.items(-1), "1 3 2 -1 -1");
        Harness.compile(a, "target 1;");
        t.due("6 stays", a.items(0) + " " + a.items(1) + " " + a.items(2), "1 3 2");
    }

    private void exploreFault(String text, String want) {
        ChanceArena a = new ChanceArena();
        Harness.compile(a, text);
        t.due("7 explore of " + text, a.explore() + "@" + a.place() + "@" + a.state() + "@" + a.states(), want);
    }

    private void explore() {
        exploreFault("var x:0..3;max x<3->1:(x'=x+1);target x=3;", "0@-1@-1@4");
        exploreFault("var x:0..3;max 1/x=1->1:stay;target x=3;", "7@16@0@0");
        exploreFault("var x:0..3;max x<3->1:(x'=x+1);target 1/(2-x)=9;", "7@39@2@0");
        exploreFault("var x:0..3;formula f=1/(1-x);max f=1->1:(x'=x+1);target x=3;", "7@22@1@0");
        exploreFault("var x:0..3;formula f=1/x;max x=0|f=1->1:(x'=x+1);target x>0;", "0@-1@-1@2");
        exploreFault("var x:0..3;max true->x-1:stay;target x=3;", "11@21@0@0");
        exploreFault("var x:0..3;max true->x+2:stay;target x=3;", "11@21@0@0");
        exploreFault("var x:0..3;max true->1/2:stay+1/3:(x'=1);target x=3;", "11@11@0@0");
        exploreFault("var x:0..3;max true->1/2:stay+2/3:(x'=9);target x=3;", "11@11@0@0");
        exploreFault("var x:0..3;max true->1/2:stay+2:(x'=9);target x=3;", "11@30@0@0");
        exploreFault("var x:0..3;max true->0:(x'=9)+1:(x'=3);target x=3;", "0@-1@-1@2");
        exploreFault("var x:0..3;max true->1:(x'=4);target x=3;", "12@23@0@0");
        exploreFault("var x:0..3;max true->1:(x'=-1);target x=3;", "12@23@0@0");
        exploreFault("var x:0..3;max true->1:(x'=1/2);target x=3;", "8@23@0@0");
        exploreFault("var x:0..3;max true->1:(x'=x%2%(x-1));target x=3;", "7@30@0@0");
        exploreFault("var x:0..3;var y:0..3;max true->1:(x'=1)&(y'=9);target x=3;", "12@41@0@0");
        exploreFault("var x:0..3;max true->1:stay;min x=0->x-1:stay;target x=3;", "13@28@0@0");
        exploreFault("var x:0..3;max false->1:stay;min x=0->1:stay;target x=3;", "0@-1@-1@1");
        exploreFault("var x:0..3;max true->1/31607:(x'=1)+1/2-1/31607:(x'=2)+1/31627:(x'=3)+1/2-1/31627:stay;target x=3;", "6@11@0@0");
        exploreFault("max true->1/999999999:stay+1-1/999999999:stay;target false;", "0@-1@-1@1");
        exploreFault("max true->1/512:stay+1/1953125:stay+1/2:stay;target false;", "6@0@0@0");
        exploreFault("max true->1/256:stay+1/1953125:stay+1/2:stay;target false;", "11@0@0@0");
        exploreFault("var x:0..2;formula f=1/3;max x=0->f:(x'=1)+f:(x'=2)+f:stay;target x=1;", "0@-1@-1@3");
        exploreFault("var x:0..2;formula f=1/(x+2);formula g=f+f;max x=0->f:(x'=1)+f*g:(x'=2);max x=2->g+g:(x'=1);target x=1;", "0@-1@-1@3");
        exploreFault("max true->1/31623:stay+1/31622:stay+1/2:stay;target false;", "11@0@0@0");
        exploreFault("max true->1/31624:stay+1/31623:stay+1/2:stay;target false;", "6@0@0@0");
        exploreFault("var x:0..511;max x<511->1:(x'=x+1);target false;", "0@-1@-1@512");
        exploreFault("var x:0..512;max x<512->1/2:stay+1/2:(x'=x+1);target false;", "5@33@511@0");
        manyBranches();
        ChanceArena a = solved(DUEL);
        a.choose(0, 1);
        a.judge(1);
        a.within(1);
        t.due("7 again", a.explore(), 0);
        t.due("7 what was worked out is gone", Harness.printed(a, 0, 0) + Harness.printed(a, 0, 1) + Harness.printed(a, 0, 2)
            + a.check() + a.choice(0) + a.rank(0), "nonenonenone-1-1-1");
        t.due("7 what was told is gone", a.next(0, 0), 1);
        t.due("7 no text", Harness.answer(() -> new ChanceArena().explore()), "IllegalStateException");
        Harness.compile(a, "target 1=1/0;");
        t.due("7 fault", a.explore() + " " + a.states() + " " + a.kind(0), "7 0 -1");
        t.due("7 no states", Harness.answer(() -> a.within(1)), "IllegalStateException");
    }

    private void manyBranches() {
        // Eight branches in each of 512 states are 4096; one more state of one branch is too many.
        StringBuilder text = new StringBuilder("var x:0..511;max true->");
        for (int i = 0; i < 8; i++) {
            text.append(i == 0 ? "" : "+").append("1/8:(x'=(x+").append(i).append(")%512)");
        }
        exploreFault(text + ";target false;", "0@-1@-1@512");
        exploreFault(text + ";max x=511->1/2:stay+1/2:(x'=x);target false;", "5@" + (text.length() + 1) + "@511@0");
        exploreFault(text + ";max x=0->1:stay;target false;", "5@13@511@0");
        exploreFault(text + ";max x=511->1:(x'=999);target false;", "12@" + (text.length() + 14) + "@511@0");
        // Branches that are joined to another one are none.
        exploreFault("var x:0..511;max true->1/2:(x'=(x+1)%512)+1/4:(x'=(x+1)%512)+1/4:(x'=(x+513)%512);target false;", "0@-1@-1@512");
        String one = "max true->1:stay;";
        exploreFault("var x:0..511;max x<511->1:(x'=x+1);" + times(one, 7) + "max x=511->1:stay;target false;", "0@-1@-1@512");
        exploreFault("var x:0..511;max x<511->1:(x'=x+1);" + times(one, 7) + "max x=511->1:stay;max x=511->1:stay;target false;",
            "5@" + (35 + 7 * one.length() + 18) + "@511@0");
    }

    private void state() {
        ChanceArena a = new ChanceArena();
        Harness.compile(a, "var x:0..3;max true->1:(x'=x+1);target false;");
        a.explore();
        t.due("8 state", a.state(), 3);
        Harness.compile(a, "target true;");
        t.due("8 whatever was compiled since", a.state() + " " + a.place(), "3 -1");
        a.explore();
        t.due("8 none", a.state(), -1);
    }

    private void states() {
        ChanceArena a = explored(DUEL);
        t.due("9 states", a.states(), 4);
        Harness.compile(a, "x");
        t.due("9 states stay", a.states(), 4);
        Harness.compile(a, "target true;");
        t.due("9 none", a.states(), 0);
        a.explore();
        t.due("9 no vars", a.states(), 1);
    }

    private void variable() {
        ChanceArena a = explored("var b:bool init true;var x:-3..3 init -2;var y:5..9;max x<0->1:(x'=-x)&(b'=!b)&(y'=7+x);target x=2;");
        t.due("10 variable", a.variable(0, 0) + " " + a.variable(0, 1) + " " + a.variable(0, 2), "1 -2 5");
        t.due("10 by the values before", a.variable(1, 0) + " " + a.variable(1, 1) + " " + a.variable(1, 2), "0 2 5");
        t.due("10 no state", Harness.answer(() -> a.variable(2, 0)), "IndexOutOfBoundsException");
        t.due("10 no state", Harness.answer(() -> a.variable(-1, 0)), "IndexOutOfBoundsException");
        t.due("10 no var", Harness.answer(() -> a.variable(0, 3)), "IndexOutOfBoundsException");
        t.due("10 no var", Harness.answer(() -> a.variable(0, -1)), "IndexOutOfBoundsException");
        Harness.compile(a, "var x:0..1;target true;");
        t.due("10 no states yet", Harness.answer(() -> a.variable(0, 0)), "IndexOutOfBoundsException");
    }

    private void kindAndCommands() {
        ChanceArena a = explored(DUEL);
        t.due("11 kind", a.kind(0) + " " + a.kind(1) + " " + a.kind(2) + " " + a.kind(3), "1 2 3 0");
        t.due("11 none", a.kind(4) + " " + a.kind(-1), "-1 -1");
        t.due("12 commands", a.commands(0) + " " + a.commands(1) + " " + a.commands(2) + " " + a.commands(3), "2 2 0 0");
        t.due("12 none", a.commands(4) + " " + a.commands(-1), "-1 -1");
        t.due("13 command", a.command(0, 0) + " " + a.command(0, 1) + " " + a.command(1, 0) + " " + a.command(1, 1), "0 1 2 3");
        t.due("13 none", a.command(0, 2) + " " + a.command(0, -1) + " " + a.command(2, 0) + " " + a.command(4, 0), "-1 -1 -1 -1");
        t.due("14 branches", a.branches(0, 0) + " " + a.branches(0, 1), "1 2");
        t.due("14 none", a.branches(0, 2) + " " + a.branches(0, -1) + " " + a.branches(2, 0) + " " + a.branches(-1, 0), "-1 -1 -1 -1");
        ChanceArena b = explored("var x:0..1;max false->1:stay;max x=0->1:(x'=1);target x=0;");
        t.due("11 a target's commands are not looked at", b.kind(0) + " " + b.commands(0) + " " + b.states(), "3 0 1");
    }

    private static String branch(ChanceArena a, int k, int i, int j) {
        return a.branch(k, i, j, 0) + " " + a.branch(k, i, j, 1) + "/" + a.branch(k, i, j, 2);
    }

    private void branches() {
        ChanceArena a = explored(DUEL);
        t.due("15 branch", branch(a, 0, 1, 0), "2 3/10");
        t.due("15 branch", branch(a, 0, 1, 1), "3 7/10");
        t.due("15 least terms", branch(a, 1, 1, 0), "2 3/5");
        t.due("15 one", branch(a, 0, 0, 0), "1 1/1");
        t.due("15 none", a.branch(0, 1, 2, 0) + " " + a.branch(0, 1, -1, 0) + " " + a.branch(0, 2, 0, 0) + " "
            + a.branch(4, 0, 0, 0) + " " + a.branch(0, 0, 0, 3) + " " + a.branch(0, 0, 0, -1), "-1 -1 -1 -1 -1 -1");
        ChanceArena b = explored("var x:0..2;max x=0->1/6:(x'=1)+1/4:(x'=2)+0:(x'=0)+1/3:(x'=1)+1/4:stay;target x=2;");
        t.due("15 joined", b.branches(0, 0) + ": " + branch(b, 0, 0, 0) + ", " + branch(b, 0, 0, 1) + ", " + branch(b, 0, 0, 2),
            "3: 1 1/2, 2 1/4, 0 1/4");
    }

    private void solve() {
        ChanceArena a = explored(DUEL);
        t.due("16 solve", a.solve(), 0);
        t.due("16 values", Harness.printed(a, 0, 0) + " " + Harness.printed(a, 1, 0) + " " + Harness.printed(a, 2, 0) + " "
            + Harness.printed(a, 3, 0), "3/10 3/10 1 0");
        // Both could wait for ever: of all numbers that fit, the least ones are wanted.
        ChanceArena b = solved("var x:0..2;max x=0->1:stay;max x=0->1:(x'=1);min x=1->1:(x'=0);min x=1->1:(x'=2);target x=2;");
        t.due("16 the least ones", Harness.printed(b, 0, 0) + Harness.printed(b, 1, 0) + Harness.printed(b, 2, 0), "001");
        ChanceArena c = solved("var x:0..2;max x=0->1/2:stay+1/2:(x'=1);max x=0->1:stay;target x=1;");
        t.due("16 max does not wait", Harness.printed(c, 0, 0), "1");
        // Equations whose determinant, or a part of it, is a multiple of the prime 1073741789.
        determinant(0, 0, "32780/1073741789");
        determinant(5, 7, null);
        refusals();
    }

    private void determinant(int one, int other, String want) {
        String text = "var x:0..4;max x=0->1/2:(x'=1)+1/2:(x'=2);"
            + "max x=1->9/32770:(x'=2)+1/32770:(x'=3)+" + one + "/32770:(x'=0)+1-" + (10 + one) + "/32770:(x'=4);"
            + "min x=2->18209/32771:(x'=1)+1/32771:(x'=3)+" + other + "/32771:(x'=0)+1-" + (18210 + other) + "/32771:(x'=4);"
            + "target x=3;";
        t.hold(new ChanceArena(), text, new Random(1));
        ChanceArena a = solved(text);
        t.due("16 determinant", want == null ? a.billionths(0, 0) > 0 : Harness.printed(a, 1, 0), want == null ? true : want);
    }

    private static String chain(int states, String chance) {
        return "var x:0.." + states + ";max x<" + states + "->" + chance + ":(x'=x+1)+1-" + chance + ":(x'=0);target x=" + states + ";";
    }

    private void refusals() {
        t.due("16 forty", explored(chain(40, "1/2")).solve(), 0);
        t.due("16 forty-one", explored(chain(41, "1/2")).solve(), 5);
        // 4096 weighs 13, 2048 weighs 12, and a number in between weighs as the greater one.
        t.due("16 weight 480", explored(chain(40, "1/2048")).solve(), 0);
        String mixed = "var x:0..41;max x<14->1/999999937:(x'=x+1)+999999936/999999937:(x'=41);"
            + "max x>=14&x<34->1/2:(x'=x+1)+1/2:(x'=41);max x>=34&x<40->1:(x'=x+1);target x=40;";
        t.due("16 weight 14 * 31 + 20 * 2 + 6", explored(mixed).solve(), 0);
        t.due("16 weight 14 * 31 + 21 * 2 + 5", explored(mixed.replace("34", "35")).solve(), 6);
        t.due("16 weight 481", explored("var x:0..40;max x<39->1/2048:(x'=x+1)+2047/2048:(x'=0);"
            + "max x=39->1/2049:(x'=x+1)+2048/2049:(x'=0);target x=40;").solve(), 6);
        t.due("16 the greatest command weighs", explored("var x:0..40;max x<40->1/2048:(x'=x+1)+2047/2048:(x'=0);"
            + "max x=39->1/4096:stay+4095/4096:(x'=0);target x=40;").solve(), 6);
        t.due("16 many goes first", explored(chain(41, "1/4096")).solve(), 5);
        t.due("16 sure moves weigh 1", explored("var x:0..40;max x<40->1:(x'=x+1);target x=40;").solve(), 0);
        ChanceArena a = explored(chain(16, "1/999999937"));
        t.due("16 weight 16 * 31", a.solve(), 6);
        t.due("16 refused", a.check() + " " + a.choice(0) + " " + a.rank(0) + " " + a.print(0, 0) + " " + a.billionths(0, 0)
            + " " + a.compare(0, 0, 0, 0), "-1 -1 -1 -1 -1 -2");
        t.due("16 refused", adopted(a), "IllegalStateException");
        t.due("16 weight 15 * 31", explored(chain(15, "1/999999937")).solve(), 0);
        // The states that come to no target, and what chances cancel to, do not count.
        t.due("16 zero states", explored("var x:0..99;max x>1->1:(x'=x%99+1);max x=0->1/2:(x'=1)+1/2:(x'=2);target x=1;").solve() , 5);
        t.due("16 zero states", explored("var x:0..99;min x>1->1:(x'=x%98+2);max x=0->1/2:(x'=1)+1/2:(x'=2);target x=1;").solve(), 0);
        t.due("16 the multiple is that of part 4", explored("var x:0..40;max x<40->1/4096:(x'=x+1)+4095/4096:(x'=x+1);target x=40;").solve(), 6);
    }

    private void within() {
        ChanceArena a = explored(DUEL);
        t.due("17 below 0", Harness.answer(() -> a.within(-1)), "IllegalArgumentException");
        t.due("17 above 32", Harness.answer(() -> a.within(33)), "IllegalArgumentException");
        t.due("17 looked at first", Harness.answer(() -> new ChanceArena().within(33)), "IllegalArgumentException");
        t.due("17 no states", Harness.answer(() -> new ChanceArena().within(32)), "IllegalStateException");
        t.due("17 none yet", Harness.printed(a, 0, 1), "none");
        t.due("17 no moves", a.within(0) + " " + Harness.printed(a, 0, 1) + " " + Harness.printed(a, 2, 1), "0 0 1");
        t.due("17 one move", a.within(1) + " " + Harness.printed(a, 0, 1) + " " + Harness.printed(a, 1, 1), "0 3/10 0");
        t.due("17 two moves", a.within(2) + " " + Harness.printed(a, 0, 1) + " " + Harness.printed(a, 1, 1), "0 3/10 3/10");
        ChanceArena b = explored(chain(1, "1/32768"));
        t.due("17 2^480 has 481 bits", b.within(32) + " " + b.print(0, 1), "6 -1");
        t.due("17 2^465", b.within(31) + " " + b.print(0, 1) + " " + b.billionths(0, 1), "0 278 945611");
        t.due("17 what throws changes nothing", Harness.answer(() -> b.within(33)) + " " + b.billionths(0, 1),
            "IllegalArgumentException 945611");
        t.due("17 refused", b.within(32) + " " + b.print(0, 1) + " " + b.compare(0, 1, 0, 1), "6 -1 -2");
        ChanceArena c = explored(chain(1, "1/32767"));
        t.due("17 480 bits", c.within(32) + " " + (c.print(0, 1) > 280), "0 true");
        // Large on the way, though 1 at last: refused by any number of moves up to n.
        String way = "var x:0..99;max x<20->1/999999937:(x'=98)+999999936/999999937:(x'=x+1);max x=98->1:(x'=99);"
            + "max x=20->1:(x'=98);target x=99;";
        ChanceArena d = explored(way);
        t.due("17 a prime's power of 16", d.within(17) + " " + d.billionths(20, 1), "0 1000000000");
        t.due("17 a prime's power of 17", d.within(18) + " " + d.print(20, 1), "6 -1");
        t.due("17 any number of moves up to n", d.within(32) + " " + d.print(20, 1), "6 -1");
    }

    private void choose() {
        ChanceArena a = explored(DUEL);
        t.due("18 the first before", a.next(0, 0), 1);
        t.due("18 choose", chosen(a, 0, 1) + " " + a.next(0, 0), "done 2");
        t.due("18 no command", chosen(a, 0, 2), "IndexOutOfBoundsException");
        t.due("18 no command", chosen(a, 0, -1), "IndexOutOfBoundsException");
        t.due("18 no commands", chosen(a, 2, 0), "IndexOutOfBoundsException");
        t.due("18 no state", chosen(a, 4, 0), "IndexOutOfBoundsException");
        t.due("18 no state", chosen(a, -1, 0), "IndexOutOfBoundsException");
        t.due("18 what throws changes nothing", a.next(0, 0), 2);
        t.due("18 choose", chosen(a, 0, 0) + " " + a.next(0, 0), "done 1");
    }

    private void adopt() {
        ChanceArena a = explored(DUEL);
        t.due("19 not worked out", adopted(a), "IllegalStateException");
        a.solve();
        a.choose(1, 1);
        t.due("19 adopt", adopted(a) + " " + a.next(0, 0) + " " + a.next(1, 0), "done 2 0");
        a.judge(1);
        t.due("19 they attain", a.compare(0, 2, 0, 0), 0);
        a.explore();
        t.due("19 gone", adopted(a), "IllegalStateException");
    }

    private void judge() {
        ChanceArena a = explored(DUEL);
        t.due("20 no player", Harness.answer(() -> a.judge(0)), "IllegalArgumentException");
        t.due("20 no player", Harness.answer(() -> a.judge(3)), "IllegalArgumentException");
        t.due("20 looked at first", Harness.answer(() -> new ChanceArena().judge(0)), "IllegalArgumentException");
        t.due("20 no states", Harness.answer(() -> new ChanceArena().judge(2)), "IllegalStateException");
        t.due("20 max waits", a.judge(1) + " " + Harness.printed(a, 0, 2) + " " + Harness.printed(a, 1, 2), "0 0 0");
        a.choose(1, 1);
        t.due("20 min does not wait", a.judge(2) + " " + Harness.printed(a, 0, 2) + " " + Harness.printed(a, 1, 2), "0 3/5 3/5");
        t.due("20 the choices stay", a.next(1, 0), 2);
        a.choose(0, 1);
        t.due("20 as worked out latest", Harness.printed(a, 0, 2), "3/5");
        t.due("20 max goes", a.judge(1) + " " + Harness.printed(a, 0, 2) + " " + Harness.printed(a, 1, 2), "0 3/10 3/10");
        t.due("20 not values", Harness.printed(a, 0, 0) + " " + a.check(), "none -1");
        // The refusals go by what is left.
        ChanceArena b = explored("var x:0..40;max x<40->1/2048:(x'=x+1)+2047/2048:(x'=0);"
            + "max x=39->1/4096:(x'=40)+4095/4096:(x'=0);min x=41->1:stay;target x=40;");
        t.due("20 all", b.solve(), 6);
        t.due("20 what is left", b.judge(1), 0);
        t.due("20 what is left", b.judge(2), 6);
        t.due("20 refused", Harness.printed(b, 0, 2), "none");
        b.choose(39, 1);
        t.due("20 what is left", b.judge(1) + " " + b.next(39, 0), "6 40");
        ChanceArena c = explored("var x:0..41;max x<41->1:stay;max x<41->1/2:(x'=x+1)+1/2:(x'=0);target x=41;");
        t.due("20 unknown ones by what is left", c.solve() + " " + c.judge(2) + " " + c.judge(1), "5 5 0");
    }

    private void print() {
        ChanceArena a = solved(COIN);
        t.due("21 print", a.print(0, 0), 3);
        t.due("22 character", a.character(0) + " " + a.character(1) + " " + a.character(2), "49 47 50");
        t.due("22 none", a.character(3) + " " + a.character(-1), "-1 -1");
        t.due("21 no state", a.print(3, 0) + " " + a.print(-1, 0), "-1 -1");
        t.due("21 another what", a.print(0, 3) + " " + a.print(0, -1), "-1 -1");
        t.due("21 not worked out", a.print(0, 1) + " " + a.print(0, 2), "-1 -1");
        t.due("21 what was printed stays", a.character(2), 50);
        t.due("21 one below", a.print(1, 0) + " " + a.character(0) + " " + a.character(1), "1 49 -1");
        t.due("21 zero", Harness.printed(a, 2, 0), "0");
        a.print(0, 0);
        Harness.compile(a, "target true;");
        a.explore();
        a.within(3);
        t.due("22 whatever was done since", a.character(0) + " " + a.character(2), "49 50");
        ChanceArena b = solved(chain(15, "1/999999937"));
        t.due("21 many digits", Harness.printed(b, 0, 0), "1");
        ChanceArena c = solved("var x:0..16;max x<15->1/999999937:(x'=x+1)+999999936/999999937:(x'=16);target x=15;");
        t.due("21 many digits", Harness.printed(c, 0, 0), "1/" + BigInteger.valueOf(999999937).pow(15));
        // Inner nines keep their zeros.
        ChanceArena d = solved("var x:0..4;max x<3->1/100000:(x'=x+1)+99999/100000:(x'=4);target x=3;");
        t.due("21 zeros", Harness.printed(d, 0, 0) + " " + Harness.printed(d, 1, 0), "1/1000000000000000 1/10000000000");
    }

    private void compareAndBillionths() {
        ChanceArena a = solved(COIN);
        t.due("23 compare", a.compare(0, 0, 1, 0) + " " + a.compare(1, 0, 0, 0) + " " + a.compare(0, 0, 0, 0), "-1 1 0");
        t.due("23 none", a.compare(0, 0, 3, 0) + " " + a.compare(-1, 0, 0, 0) + " " + a.compare(0, 1, 0, 0) + " "
            + a.compare(0, 0, 0, 2) + " " + a.compare(0, 3, 0, 0), "-2 -2 -2 -2 -2");
        a.within(1);
        a.choose(0, 1);
        a.judge(1);
        t.due("23 of two sorts", a.compare(0, 0, 0, 1) + " " + a.compare(0, 2, 0, 1) + " " + a.compare(0, 0, 0, 2), "0 -1 1");
        t.due("24 billionths", a.billionths(0, 0) + " " + a.billionths(1, 0) + " " + a.billionths(2, 0), "500000000 1000000000 0");
        t.due("24 rounded down", a.billionths(0, 2), 333333333);
        t.due("24 none", a.billionths(3, 0) + " " + a.billionths(0, 3) + " " + a.billionths(-1, 0), "-1 -1 -1");
        ChanceArena b = solved("var x:0..2;max x=0->999999998/999999999:(x'=1)+1/999999999:(x'=2);target x=1;");
        t.due("24 just below 1", b.billionths(0, 0), 999999998);
    }

    private void choiceAndRank() {
        ChanceArena a = explored(DUEL);
        t.due("25 not worked out", a.choice(0), -1);
        t.due("26 not worked out", a.rank(0) + " " + a.rank(2), "-1 -1");
        a.solve();
        t.due("25 choice", a.choice(0) + " " + a.choice(1) + " " + a.choice(2) + " " + a.choice(3), "1 0 -1 -1");
        t.due("25 no state", a.choice(4) + " " + a.choice(-1), "-1 -1");
        t.due("26 rank", a.rank(0) + " " + a.rank(1) + " " + a.rank(2) + " " + a.rank(3), "1 2 0 -1");
        t.due("26 no state", a.rank(4) + " " + a.rank(-1), "-1 -1");
        // Both commands attain the value, but only the second one comes nearer.
        ChanceArena b = solved("var x:0..3;max x=0->1:stay;max x=0->1:(x'=1);max x=1->1:(x'=0);max x=1->1:(x'=2);target x=2;");
        t.due("25 of lower rank", b.choice(0) + " " + b.choice(1) + " " + b.rank(0) + " " + b.rank(1), "1 1 2 1");
        // Min's rank waits for all commands that attain.
        ChanceArena c = solved("var x:0..3;min x=0->1:(x'=3);min x=0->1:(x'=1);max x=1->1:(x'=2);max x=2->1:(x'=3);target x=3;");
        t.due("26 each of these", c.rank(0) + " " + c.rank(1) + " " + c.rank(2) + " " + c.rank(3) + " " + c.choice(0), "3 0 2 1 0");
        // A state of value 0: min's first command that attains it, max's first command.
        ChanceArena d = solved("var x:0..3;min x=0->1:(x'=3);min x=0->1:(x'=1);max x=1->1/2:stay+1/2:(x'=0);max x=1->1:stay;target x=3;");
        t.due("25 of value 0", Harness.printed(d, 0, 0) + " " + d.choice(0) + " " + d.choice(2) + " " + d.rank(0), "0 1 0 -1");
    }

    private void next() {
        ChanceArena a = explored(COIN);
        t.due("27 next", a.next(0, 0) + " " + a.next(0, 1073741823) + " " + a.next(0, 1073741824) + " " + a.next(0, 2147483647), "1 1 2 2");
        a.choose(0, 1);
        // 2^31 / 3 is 715827882.67.
        t.due("27 above that", a.next(0, 715827882) + " " + a.next(0, 715827883), "1 2");
        t.due("27 no commands", a.next(1, 5) + " " + a.next(2, 5), "1 2");
        t.due("27 none", a.next(3, 0) + " " + a.next(-1, 0) + " " + a.next(0, -1) + " " + a.next(1, -1), "-1 -1 -1 -1");
        ChanceArena b = explored("var x:0..2;max x=0->1/999999999:(x'=1)+999999998/999999999:(x'=2);target x=1;");
        t.due("27 to the last digit", b.next(0, 2) + " " + b.next(0, 3), "1 2");
    }

    private void check() {
        ChanceArena a = explored(DUEL);
        t.due("28 not worked out", a.check(), -1);
        a.solve();
        t.due("28 holds", a.check(), 1);
        a.judge(1);
        a.within(3);
        t.due("28 still holds", a.check(), 1);
        Harness.compile(a, "y");
        t.due("28 stays", a.check(), 1);
        a.explore();
        t.due("28 gone", a.check(), -1);
        t.due("28 no unknown states", solved("var x:0..1;max x=0->1:stay;target x=1;").check(), 1);
        Harness model = t;
        Random random = new Random(28);
        for (String text : new String[] {COIN, DUEL, chain(40, "1/2048"), chain(15, "1/999999937"), chain(41, "1/3")}) {
            model.hold(new ChanceArena(), text, random);
        }
    }
}
