/** The edges that part 4 of the document names: each fault with its place, and which of two is told. */
public final class FaultsEdgesTest {
    private final Edges e = new Edges();

    public static void main(String[] args) {
        FaultsEdgesTest test = new FaultsEdgesTest();
        test.wordsGoFirst();
        test.itemsInTheirOrder();
        test.oneWalk();
        test.unknownNames();
        test.knownNames();
        test.namesThatAreNoVars();
        test.kindsOfOperations();
        test.kindsOfRules();
        test.twice();
        test.many();
        test.wordsBeforeNumbers();
        test.largeZeroWhole();
        test.ranges();
        test.target();
        test.exploreNumbers();
        test.chances();
        test.multiples();
        test.over();
        test.mixed();
        test.manyStates();
        test.manyBranches();
        test.e.finish();
    }

    private void wordsGoFirst() {
        e.says("4: 1 is told before all others");
        e.fault(1, "target x; @x");
        e.fault(1, "const a=true+1;target@");
        e.fault(1, "target true;target true;@;");
        e.fault(1, "const a=1/0;target true@:");
        e.fault(1, "var x:1..0;@1");
        e.fault(1, Edges.many("var v*:bool;", 13) + "@true");
        e.fault(1, "const a=1;const a=2;const a=3@");
        e.says("4: where the word it is told of begins; the text's length for its end");
        e.fault(1, "target true@");
        e.fault(1, "target true  @");
        e.fault(1, "target true #; \n#@");
        e.fault(1, "  target   targe   @targe ;");
    }

    private void itemsInTheirOrder() {
        e.says("4: by its items in their order");
        String[][] items = {
            {"2", "const a=@y;"}, {"3", "formula b=1@+true;"}, {"6", "const c=999999999@+1;"}, {"7", "const d=1@/0;"}, {"8", "const f=1/2@%1;"},
            {"8", "var g:@1/2..1;"}, {"9", "var h:1..@0;"}, {"9", "var i:0..1 init @2;"}, {"2", "max @z->1:stay;"}, {"3", "target @1;"},
            {"4", "var w:bool;max true->1:(w'=true)&(@w'=true);"}, {"4", "target true;@target true;"}};
        for (String[] first : items) {
            for (String[] second : items) {
                e.fault(Integer.parseInt(first[0]), first[1] + Edges.plain(second[1]));
            }
        }
        e.says("4: 10 TARGET goes behind all others");
        for (String[] item : items) {
            e.fault(Integer.parseInt(item[0]), item[1]);
        }
    }

    private void oneWalk() {
        e.says("4: in an item from the left, in one walk for 2, 3, 4, 5");
        e.fault(2, "const a=@b+(1+true);target true;");
        e.fault(3, "const a=(1@+true)+b;target true;");
        e.fault(2, "const a=1;const @a=1+true;target true;");
        e.fault(2, "var x:0..1;max true->1:(@y'=1)&(x'=1)&(x'=1);target true;");
        e.fault(4, "var x:0..1;max true->1:(x'=1)&(@x'=1)&(y'=1);target true;");
        e.fault(4, "var x:0..1;max true->1:(x'=1)&(@x'=true);target true;");
        e.fault(3, "var x:0..1;max true->1:(x'=@true)&(x'=1);target true;");
        e.fault(3, "var x:0..1;max @1->1:(x'=true);target true;");
        e.fault(3, "var x:0..1;max @1->true:stay;target true;");
        e.fault(3, "max true->@true:stay+b:stay;target true;");
        e.fault(2, "max true->@b:stay+true:stay;target true;");
        e.fault(3, "max true->@(true):(y'=1);target true;");
        e.fault(3, "var x:@true..b;target true;");
        e.fault(2, "var x:@b..true;target true;");
        e.fault(3, "var x:0..@true init b;target true;");
        e.fault(2, "var x:0..1 init @b+true;target true;");
        e.fault(2, "const c=1;var @c:true..b;target true;");
        e.says("4: each operation when all that it is made of has been looked at");
        e.ruleFault(2, "true+@b");
        e.ruleFault(2, "1+true*@b");
        e.ruleFault(3, "1@+true+b");
        e.ruleFault(3, "1+2@*true+b");
        e.ruleFault(3, "true+1@*true");
        e.ruleFault(2, "1&@b");
        e.ruleFault(2, "!(1+@b)");
        e.ruleFault(2, "-(true&@b)");
        e.ruleFault(2, "least(true,@b)");
        e.ruleFault(3, "least(true,1@+true)");
        e.ruleFault(2, "1?@b:1");
        e.ruleFault(2, "1?1:@b");
        e.ruleFault(2, "true?true:@b");
        e.ruleFault(3, "1?1:2@+true");
        e.ruleFault(3, "1?2@+true:1");
        e.ruleFault(3, "@-true+b");
        e.ruleFault(3, "-@-true");
        e.ruleFault(3, "@!1&b");
        e.ruleFault(2, "!1=@b");
        e.ruleFault(2, "true<@b");
        e.says("4: (also what may be left out)");
        e.ruleFault(3, "true|(1@+true=1)");
        e.ruleFault(2, "true|@b");
        e.ruleFault(2, "false&@b");
        e.ruleFault(2, "true?1:@b");
        e.ruleFault(2, "false?@b:1");
        e.ruleFault(3, "true|!!@!1");
        e.ruleFault(3, "true@|1");
        e.ruleFault(3, "false@&1");
        e.ruleFault(3, "true@?1:true");
    }

    private void unknownNames() {
        e.says("4: 2: a name that is not known there");
        e.fault(2, "const a=@b;target true;");
        e.fault(2, "formula a=@b;target true;");
        e.fault(2, "var x:@b..1;target true;");
        e.fault(2, "var x:0..@b;target true;");
        e.fault(2, "var x:0..1 init @b;target true;");
        e.fault(2, "var x:bool init @b;target true;");
        e.fault(2, "target @b;");
        e.fault(2, "max @b->1:stay;target true;");
        e.fault(2, "min true->@b:stay;target true;");
        e.fault(2, "max true->1/2:stay+@b:stay;target true;");
        e.fault(2, "var x:0..1;max true->1:(x'=@b);target true;");
        e.fault(2, "max true->1:(@b'=1);target true;");
        e.fault(2, "const a=1;target a=1&@aa=1;");
        e.fault(2, "const a=@b+c;target true;");
    }

    private void knownNames() {
        e.says("4: 2: (behind const, formula, var) that is known already");
        for (String known : new String[] {"const a=1;", "formula a=1;", "var a:0..1;"}) {
            e.fault(2, known + "const @a=2;target true;");
            e.fault(2, known + "formula @a=2;target true;");
            e.fault(2, known + "var @a:0..1;target true;");
            e.fault(2, known + "var @a:bool;target true;");
            e.fault(2, known + "const @a=b;target true;");
        }
        e.says("4: 2: in a rule of consts one that is none");
        e.fault(2, "var v:0..1;const c=@v;target true;");
        e.fault(2, "formula f=1;const c=@f;target true;");
        e.fault(2, "formula f=1;var x:@f..1;target true;");
        e.fault(2, "formula f=1;var x:0..@f;target true;");
        e.fault(2, "formula f=1;var x:0..1 init @f;target true;");
        e.fault(2, "var v:0..1;var x:0..1 init @v;target true;");
        e.fault(2, "var v:bool;const c=true+@v;target true;");
        e.stands("var v:0..1;formula f=v;max f=1->f:(v'=f);target f=1;");
    }

    private void namesThatAreNoVars() {
        e.says("4: 2: behind '(' of a set one that is no var");
        e.fault(2, "const a=1;max true->1:(@a'=1);target true;");
        e.fault(2, "formula a=1;max true->1:(@a'=1);target true;");
        e.fault(2, "max true->1:(@a'=true);target true;");
        e.fault(2, "const a=1;max true->1:(@a'=1)&(a'=1);target true;");
        e.stands("var a:0..1;max true->1:(a'=1);target true;");
    }

    private void kindsOfOperations() {
        e.says("4: 3: at the operation's sign");
        for (String sign : new String[] {"+", "-", "*", "/", "%", "<", "<=", ">", ">="}) {
            e.rule("1" + sign + "2");
            e.ruleFault(3, "1@" + sign + "true");
            e.ruleFault(3, "true@" + sign + "1");
            e.ruleFault(3, "true@" + sign + "true");
        }
        for (String sign : new String[] {"=", "!="}) {
            e.rule("1" + sign + "2");
            e.rule("true" + sign + "false");
            e.ruleFault(3, "1@" + sign + "true");
            e.ruleFault(3, "true@" + sign + "1");
        }
        for (String sign : new String[] {"&", "|"}) {
            e.rule("true" + sign + "false");
            e.ruleFault(3, "1@" + sign + "true");
            e.ruleFault(3, "true@" + sign + "1");
            e.ruleFault(3, "1@" + sign + "1");
        }
        e.rule("-1");
        e.ruleFault(3, "@-true");
        e.ruleFault(3, "1+@-(1=1)");
        e.rule("!true");
        e.ruleFault(3, "@!1");
        e.ruleFault(3, "true&@!(1+1)");
        e.says("4: 3: least or most");
        e.ruleFault(3, "1+@least(true)");
        e.ruleFault(3, "1+@most(1,1=1)");
        e.says("4: 3: or '?'");
        e.ruleFault(3, "1@?1:1");
        e.ruleFault(3, "true@?1:true");
        e.ruleFault(3, "true@?true:1");
        e.ruleFault(3, "1@?1:true");
        e.ruleFault(3, "true?1@?1:2:3");
        e.ruleFault(3, "true?1:1@?1:2");
        e.rule("true?true:false");
        e.rule("true?1:2");
        e.says("4: 3: what an operation makes is a number or a truth");
        for (String number : new String[] {"1+1", "1-1", "1*1", "1/1", "1%1", "-1", "least(1)", "most(1)", "(true?1:2)", "(1)"}) {
            e.rule("1+" + number);
            e.ruleFault(3, "true@&" + (number.startsWith("-") ? "(" + number + ")" : number));
        }
        for (String truth : new String[] {"(1=1)", "(1!=1)", "(1<1)", "(1<=1)", "(1>1)", "(1>=1)", "(!true)", "(true&true)", "(true|true)",
                "(true?true:false)", "true", "false"}) {
            e.rule("true&" + truth);
            e.ruleFault(3, "1@+" + truth);
        }
        e.says("4: 3: and so is what a name has");
        String named = "const n=1;const t=true;formula f=n;formula g=t;var v:0..1;var b:bool;";
        for (String number : new String[] {"n", "f", "v"}) {
            e.stands(named + "formula h=1+" + number + ";target true;");
            e.fault(3, named + "formula h=true@&" + number + ";target true;");
        }
        for (String truth : new String[] {"t", "g", "b"}) {
            e.stands(named + "formula h=true&" + truth + ";target true;");
            e.fault(3, named + "formula h=1@+" + truth + ";target true;");
        }
    }

    private void kindsOfRules() {
        e.says("4: 3: of a whole rule at its first word: a guard, the target and a bool's init and set are truths");
        e.fault(3, "max @1->1:stay;target true;");
        e.fault(3, "min @(1)->1:stay;target true;");
        e.fault(3, "max @-1+1->1:stay;target true;");
        e.fault(3, "target @1;");
        e.fault(3, "target @true?1:2;");
        e.fault(3, "target @least(1,2);");
        e.fault(3, "var b:bool init @0;target true;");
        e.fault(3, "var b:bool;max true->1:(b'=@1);target true;");
        e.fault(3, "var b:bool;max true->1:(b'=@(1+1));target true;");
        e.stands("var b:bool init 1=1;max b->1:(b'=1=1);target b;");
        e.says("4: 3: ranges, inits and sets of numbers, and what is in front of ':', are numbers");
        e.fault(3, "var x:@true..1;target true;");
        e.fault(3, "var x:0..@1=1;target true;");
        e.fault(3, "var x:0..1 init @!true;target true;");
        e.fault(3, "var x:0..1;max true->1:(x'=@true);target true;");
        e.fault(3, "max true->@true:stay;target true;");
        e.fault(3, "max true->@1=1:stay;target true;");
        e.fault(3, "max true->1:stay+@!true:stay;target true;");
        e.stands("const a=true;formula f=true;const b=1;formula g=1;target true;");
        e.says("4: 3: when it is looked at");
        e.fault(3, "var x:@true..1+true;target true;");
        e.fault(3, "max @1->true:stay;target true;");
        e.fault(3, "max true->@true:stay+1/true:stay;target true;");
        e.fault(3, "var b:bool;var x:0..1;max true->1:(b'=@1)&(x'=true);target true;");
        e.fault(3, "target 1@+true;");
        e.fault(3, "var x:0..1;max true->1:(x'=1@&true);target true;");
    }

    private void twice() {
        e.says("4: 4 TWICE: a var set twice in a branch (at the second one's NAME)");
        String vars = Edges.many("var v*:0..1;", 12);
        e.fault(4, vars + "max true->1:(v0'=1)&(@v0'=1);target true;");
        e.fault(4, vars + "max true->1:(v11'=1)&(v0'=1)&( @v11 '=1);target true;");
        e.fault(4, vars + "max true->1:(v1'=1)&(v2'=1)&(@v2'=1)&(v1'=1);target true;");
        e.stands(vars + "max true->1/2:(v0'=1)+1/2:(v0'=1);max true->1:(v0'=1);target true;");
        StringBuilder all = new StringBuilder();
        for (int i = 0; i < 12; i++) {
            all.append(i == 0 ? "" : "&").append("(v").append(i).append("'=1)");
        }
        e.stands(vars + "max true->1:" + all + ";target true;");
        e.fault(4, vars + "max true->1:" + all + "&(@v7'=1);target true;");
        e.fault(4, vars + "max true->1:stay+1:(v0'=1)&(@v0'=1);target true;");
        e.says("4: 4 TWICE: a second target (at target)");
        e.fault(4, "target true; @target true;");
        e.fault(4, "target true;@target 1;");
        e.fault(4, "target true;@target x;");
        e.fault(4, "target true;@target true;target true;");
    }

    private void many() {
        e.says("4: 5 MANY: before all else in that item or branch");
        String vars = Edges.many("var v*:bool;", 12);
        e.fault(5, vars + "@var v0:bool;target true;");
        e.fault(5, vars + "@var x:y..1;target true;");
        e.fault(5, vars + "@var x:1..0;target true;");
        String names = Edges.many("const c*=1;", 60);
        e.fault(5, names + "@const c0=1;target true;");
        e.fault(5, names + "@formula d=y;target true;");
        e.fault(5, names + "@const d=1+true;target true;");
        e.fault(5, names + "@const d=1/0;target true;");
        String commands = Edges.times("max true->1:stay;", 60);
        e.fault(5, commands + "@max y->1:stay;target true;");
        e.fault(5, commands + "@min 1->1:stay;target true;");
        e.fault(5, commands + "@max true->" + Edges.times("1/9:stay+", 8) + "1/9:stay;target true;");
        String branches = "max true->" + Edges.times("1/9:stay+", 8);
        e.fault(5, branches + "@y:stay;target true;");
        e.fault(5, branches + "@(1+true):stay;target true;");
        e.fault(5, branches + "@true:stay;target true;");
        e.fault(5, branches + "@1/9:(y'=1);target true;");
        e.says("4: 5 MANY: behind all that stands before it");
        e.fault(2, "max @y->" + Edges.times("1/9:stay+", 8) + "1/9:stay;target true;");
        e.fault(2, "max true->" + Edges.times("1/9:stay+", 7) + "@y:stay+1/9:stay;target true;");
        e.fault(2, "max true->" + Edges.times("1/9:stay+", 7) + "1/9:(@y'=1)+1/9:stay;target true;");
        e.fault(3, "max true->" + Edges.times("1/9:stay+", 7) + "@true:stay+1/9:stay;target true;");
        e.fault(2, Edges.many("var v*:bool;", 11) + "var v11:bool init @y;var w:bool;target true;");
        e.fault(7, Edges.many("const c*=1;", 59) + "const c59=1@/0;const d=1;target true;");
        e.fault(2, Edges.times("max true->1:stay;", 59) + "max @y->1:stay;max true->1:stay;target true;");
        e.fault(4, vars + "target true;@target true;var w:bool;");
        e.says("4: 5 MANY: at its first word");
        e.fault(5, branches + " #\n @-1/9:stay;target true;");
        e.fault(5, commands + " #\n @min true->1:stay;target true;");
    }

    private void wordsBeforeNumbers() {
        e.says("4: In an item all words of it are looked at for 2, 3, 4, 5 before its numbers are worked out");
        e.ruleFault(2, "1/0+@b");
        e.ruleFault(3, "1/0@+true");
        e.ruleFault(3, "999999999*2=1@&1");
        e.fault(2, "var x:1/0..@b;target true;");
        e.fault(2, "var x:1/2..1 init @b;target true;");
        e.fault(3, "var x:1/0..@true;target true;");
        e.fault(3, "var x:1..0 init @true;target true;");
        e.fault(3, "var x:bool init @1/0;target true;");
        e.fault(7, "var x:bool init 1@/0=1;target true;");
        e.fault(2, "var x:0..20000 init @b;target true;");
    }

    private void largeZeroWhole() {
        e.says("4: 6 LARGE: a result with a number of 1000000000 or more above or below");
        e.ruleFault(6, "1+(999999999@+1)");
        e.ruleFault(6, "1/999999999@/2");
        e.fault(6, "var x:999999999@+1..1;target true;");
        e.fault(6, "var x:0..999999999@*2;target true;");
        e.fault(6, "var x:0..1 init 999999999@*2;target true;");
        e.fault(6, "var x:bool init 999999999@*2=1;target true;");
        e.says("4: 7 ZERO: divided by 0, % by what is not above 0");
        e.ruleFault(7, "1@/0");
        e.ruleFault(7, "0@/0");
        e.ruleFault(7, "1@/(1-1)");
        e.ruleFault(7, "1@%0");
        e.ruleFault(7, "1@%-1");
        e.rule("0/1");
        e.rule("1/-1");
        e.rule("0%1");
        e.fault(7, "var x:1@/0..1;target true;");
        e.fault(7, "var x:0..1@/0;target true;");
        e.fault(7, "var x:0..1 init 1@/0;target true;");
        e.says("4: 8 WHOLE: of %, before 7");
        e.ruleFault(8, "1/2@%2");
        e.ruleFault(8, "1/2@%0");
        e.ruleFault(8, "1/2@%-1");
        e.ruleFault(8, "1@%(1/2)");
        e.ruleFault(8, "1@%(-1/2)");
        e.ruleFault(8, "1/2@%(1/2)");
        e.says("4: 8 WHOLE: ranges and inits, at the rule's first word, as soon as it is worked out");
        e.fault(8, "var x:@1/2..1;target true;");
        e.fault(8, "var x:@1/2..1/0;target true;");
        e.fault(8, "var x:@(1/2)..1/2;target true;");
        e.fault(8, "var x:0..@1/2;target true;");
        e.fault(8, "var x:1..@-1/2;target true;");
        e.fault(8, "var x:0..@1/2 init 1/0;target true;");
        e.fault(8, "var x:0..1 init @1/2;target true;");
        e.fault(8, "var x:0..1 init @5/2;target true;");
        e.says("4: in the order in which they are worked out");
        e.ruleFault(7, "1@/0+999999999*2");
        e.ruleFault(6, "999999999@*2+1/0");
        e.ruleFault(7, "999999999*(1@/0)");
        e.ruleFault(7, "1@%0+1/2%1");
        e.ruleFault(8, "1/2@%1+1%0");
        e.ruleFault(7, "1/2%(1@/0)");
        e.fault(7, "var x:1@/0..1/0;target true;");
    }

    private void ranges() {
        e.says("4: 9 RANGE: the first number of a range is greater than the last one (at the second one's first word)");
        e.stands("var x:1..1;target true;");
        e.fault(9, "var x:1..@0;target true;");
        e.fault(9, "var x:1..@(0);target true;");
        e.fault(9, "var x:0..@-1;target true;");
        e.stands("var x:-1..0;target true;");
        e.fault(9, "var x:999999999..@-999999999;target true;");
        e.says("4: 9 RANGE: or there are too many (at the second one's first word, before the init)");
        e.fault(9, "var x:0..@5000+5000;target true;");
        e.fault(9, "var x:0..@10000 init 1/0;target true;");
        e.fault(9, "var x:0..@10000 init 1/2;target true;");
        e.fault(9, "var x:0..@10000 init -1;target true;");
        e.fault(9, "var x:1..@0 init 1/0;target true;");
        e.says("4: 9 RANGE: or an init lies outside of it (at its first word)");
        e.stands("var x:3..5 init 3;target true;");
        e.stands("var x:3..5 init 5;target true;");
        e.fault(9, "var x:3..5 init @2;target true;");
        e.fault(9, "var x:3..5 init @6;target true;");
        e.fault(9, "var x:3..5 init @(1+5);target true;");
        e.stands("var x:-5..-3 init -5;target true;");
        e.fault(9, "var x:-5..-3 init @-6;target true;");
        e.fault(9, "var x:-5..-3 init @-2;target true;");
        e.fault(9, "var x:-5..-3 init @0;target true;");
    }

    private void target() {
        e.says("4: At the text's end: 10 TARGET: none");
        e.fault(10, "const a=1;@");
        e.fault(10, "const a=1; # target true;@");
        e.fault(10, "max true->1:stay;\n\n@");
        e.stands("const a=1;target true;const b=1;");
        e.stands("target true;");
    }

    private void exploreNumbers() {
        e.says("4: Of explore(), place and state told: 6, 7, 8 as above");
        String step = "var x:0..3;max x<3->1:(x'=x+1);";
        e.stuck(7, 0, step + "target 1@/x=1;");
        e.stuck(7, 2, step + "target 1@/(2-x)=9;");
        e.stuck(6, 3, step + "target (x+999999996)@+1=9;");
        e.stuck(8, 1, step + "target x/2@%1=9;");
        e.stuck(7, 1, "var x:0..3;max 1@%(1-x)=0->1:(x'=x+1);target false;");
        e.stuck(7, 0, "var x:0..3;max true->1@/x:stay;target false;");
        e.stuck(7, 0, "var x:0..3;max true->1:(x'=1@/x);target false;");
        e.stuck(6, 0, "var x:0..3;max true->1:(x'=(x+999999999)@+1);target false;");
        e.stuck(8, 0, "var x:0..3;max true->1:(x'=(x+1)/2@%2);target false;");
        e.stuck(8, 0, "var x:0..3;max true->1:(x'=(x+1)/2@%x);target false;");
        e.stuck(7, 0, "var b:bool;max true->1:(b'=1@/0=1);target false;");
    }

    private void chances() {
        e.says("4: 11 CHANCE: what is in front of ':' is below 0 or above 1 (at its first word)");
        String vars = "var x:0..9;max x=0->";
        e.found(2, vars + "0:(x'=5)+1:(x'=1);target false;");
        e.found(2, vars + "1:(x'=1);target false;");
        e.stuck(11, 0, vars + "@-1/999999999:stay+1:stay;target false;");
        e.stuck(11, 0, vars + "1/2:stay+@0-1/2:stay+1:stay;target false;");
        e.stuck(11, 0, vars + "@(999999999/999999998):stay;target false;");
        e.stuck(11, 0, vars + "1/2:stay+@3/2:stay;target false;");
        e.stuck(11, 0, vars + "@2:stay+-1:stay;target false;");
        e.says("4: 11 CHANCE: as soon as it is worked out");
        e.stuck(11, 0, vars + "@2:stay+1/x:stay;target false;");
        e.stuck(7, 0, vars + "1@/x:stay+2:stay;target false;");
        e.stuck(11, 0, vars + "1/2:(x'=99)+@2:stay;target false;");
        e.stuck(11, 0, vars + "1/31623:stay+1/31624:stay+@2:stay;target false;");
        e.says("4: 11 CHANCE: or a command's together are not 1 (at max or min)");
        String text = "var x:0..9; @max x=0->";
        e.stuck(11, 0, text + "1/2:stay;target false;");
        e.stuck(11, 0, text + "0:stay;target false;");
        e.stuck(11, 0, text + "1/2:stay+1/2:stay+1/999999998:stay;target false;");
        e.stuck(11, 0, text + "1/2:stay+1/3:stay;target false;");
        e.stuck(11, 0, text + "1:stay+1:stay;target false;");
        e.stuck(11, 0, text + "999999998/999999999:stay;target false;");
        e.found(1, "var x:0..9;max x=0->999999998/999999999:stay+1/999999999:stay;target false;");
        e.found(1, "var x:0..9;max x=0->1/2:stay+1/3:stay+1/6:stay;target false;");
        e.stuck(11, 1, "var x:0..9;max x=0->1:(x'=1);@min x=1->1/2:stay;target false;");
        e.stuck(11, 0, text + "1:stay+" + Edges.times("1:stay+", 6) + "1:stay;target false;");
        e.says("4: 11 CHANCE: before all sets");
        e.stuck(11, 0, text + "1/2:(x'=99);target false;");
        e.stuck(11, 0, text + "1/2:(x'=1/x)+1/3:stay;target false;");
    }

    private void multiples() {
        e.says("4: 6 also when the least common multiple of what a command's chances have below is 1000000000 or more");
        e.found(1, "max true->1/999999999:stay+999999998/999999999:stay;target false;");
        // 256 * 1953125 is 500000000, 512 * 1953125 is 1000000000.
        e.stuck(11, 0, "@max true->1/256:stay+1/1953125:stay;target false;");
        e.stuck(6, 0, "@max true->1/512:stay+1/1953125:stay;target false;");
        e.stuck(6, 0, "@max true->1/1953125:stay+1/512:stay;target false;");
        e.found(1, "max true->1/256:stay+1/1953125:stay+255/256-1/1953125:stay;target false;");
        e.stuck(11, 0, "@max true->1/31622:stay+1/31623:stay;target false;");
        e.stuck(6, 0, "@max true->1/31623:stay+1/31624:stay;target false;");
        e.stuck(11, 0, "@max true->1/500000000:stay+1/250000000:stay;target false;");
        e.stuck(6, 0, "@min true->1/999999999:stay+1/999999998:stay+1/999999997:stay+1/999999996:stay+1/999999995:stay;target false;");
        e.says("4: 6: looked at before the sum (11)");
        e.stuck(6, 0, "@max true->1/512:stay+1/1953125:stay+1:stay;target false;");
        e.says("4: 6: before the sets");
        e.stuck(6, 0, "var x:0..1;@max true->1/512:(x'=2)+1/1953125:stay+1/2-1/512:stay+1/2-1/1953125:stay;target false;");
        e.says("4: 6: in a state of its own");
        e.stuck(6, 1, "var x:0..1;max x=0->1:(x'=1);@max x=1->1/(511+x):stay+1/1953125:stay;target false;");
    }

    private void over() {
        e.says("4: 12 OVER: a set's number is not in the var's range (at its '(')");
        String vars = "var x:3..7 init 5;var y:-7..-3;max x=5->1:";
        e.found(2, vars + "(x'=3);target false;");
        e.found(2, vars + "(x'=7);target false;");
        e.stuck(12, 0, vars + "@(x'=2);target false;");
        e.stuck(12, 0, vars + "@(x'=8);target false;");
        e.stuck(12, 0, vars + "@(x'=-5);target false;");
        e.found(2, vars + "(y'=-3)&(x'=6);target false;");
        e.found(2, vars + "(y'=-7)&(x'=6);target false;");
        e.stuck(12, 0, vars + "@(y'=-8);target false;");
        e.stuck(12, 0, vars + "@(y'=-2);target false;");
        e.stuck(12, 0, vars + "(x'=3)& @( y'=0);target false;");
        e.stuck(12, 0, vars + "(x'=3)&@(y'=999999999);target false;");
        e.says("4: 12 OVER: not whole (8 then)");
        e.stuck(8, 0, vars + "@(x'=7/2);target false;");
        e.stuck(8, 0, vars + "@(x'=99/2);target false;");
        e.stuck(8, 0, vars + "(x'=3)&@(y'=-7/2);target false;");
        e.found(2, vars + "(x'=12/2);target false;");
        e.says("4: sets, from the left");
        e.stuck(12, 0, vars + "@(x'=2)&(y'=1/0);target false;");
        e.stuck(7, 0, vars + "(x'=1@/0)&(y'=0);target false;");
        e.stuck(8, 0, vars + "@(x'=1/2)&(y'=0);target false;");
        e.stuck(12, 0, vars.replace("1:", "1/2:") + "@(x'=2)+1/2:(x'=1/0);target false;");
    }

    private void mixed() {
        e.says("4: 13 MIXED: a command of the other player is enabled already (at max or min)");
        e.stuck(13, 0, "max true->1:stay;@min true->1:stay;target false;");
        e.stuck(13, 0, "min true->1:stay; @max true->1:stay;target false;");
        e.found(1, "max true->1:stay;max true->1:stay;target false;");
        e.found(1, "min true->1:stay;min true->1:stay;target false;");
        e.found(1, "max true->1:stay;min false->1:stay;target false;");
        e.found(1, "max false->1:stay;min true->1:stay;target false;");
        e.found(2, "var x:0..1;max x=0->1:(x'=1);min x=1->1:stay;target false;");
        e.stuck(13, 1, "var x:0..1;max x=0->1:(x'=1);min x=1->1:stay;@max x=1->1:stay;target false;");
        e.says("4: 13 MIXED: told when it is enabled");
        e.stuck(13, 0, "max true->1:stay;@min true->1/0:stay;target false;");
        e.stuck(13, 0, "max true->1:stay;@min true->2:stay;target false;");
        e.stuck(7, 0, "max true->1:stay;min 1@/0=1->1:stay;target false;");
        e.stuck(7, 0, "max true->1@/0:stay;min true->1:stay;target false;");
        e.stuck(13, 0, "max true->1:stay;max true->1:stay;@min true->1:stay;max 1/0=1->1:stay;target false;");
    }

    private void manyStates() {
        e.says("4: 5 MANY: the 513th state (at the branch's first word)");
        e.found(512, "var x:0..511;max x<511->1:(x'=x+1);target false;");
        e.stuck(5, 511, "var x:0..512;max x<512->@1:(x'=x+1);target false;");
        e.stuck(5, 511, "var x:0..512;max x<512->1/2:stay+ @1/2:(x'=x+1);target false;");
        e.found(512, "var x:0..512;max x<512->1:(x'=x+1);target x=511;");
        e.found(512, "var x:0..511;max true->1:(x'=(x+1)%512);target false;");
        e.found(512, "var x:0..600;max x<511->1:(x'=x+1);max x=511->1:stay+0:(x'=x+1);target false;");
        e.found(512, "var x:0..7;var y:0..7;var z:0..7;max true->1/3:(x'=(x+1)%8)+1/3:(y'=(y+1)%8)+1/3:(z'=(z+1)%8);target false;");
        // State k leads to the states 8 * k + 1 .. 8 * k + 8, or 7 * k + 1 .. 7 * k + 7; 512 is 8 * 63 + 8, and 7 * 73 + 1.
        e.stuck(5, 63, "var x:0..9999;max true->" + tree(8, 7) + ";target false;");
        e.stuck(5, 73, "var x:0..9999;max true->" + tree(7, 0) + ";target false;");
        e.found(512, "var x:0..9999;max x<63->" + tree(8, 9) + ";max x=63->" + tree(7, 9).replace("x*7", "x*8") + ";target false;");
        e.says("4: 5 MANY: sets' faults go before it");
        e.stuck(12, 511, "var x:0..511;max true->1:@(x'=x+1);target false;");
    }

    /** Branches of a state to as many new ones, one of them marked. */
    private static String tree(int ways, int marked) {
        StringBuilder all = new StringBuilder();
        for (int i = 0; i < ways; i++) {
            all.append(i == 0 ? "" : "+").append(i == marked ? "@" : "").append("1/").append(ways)
                .append(":(x'=x*").append(ways).append("+").append(i + 1).append(")");
        }
        return all.toString();
    }

    private void manyBranches() {
        StringBuilder eight = new StringBuilder("max true->");
        for (int i = 0; i < 8; i++) {
            eight.append(i == 0 ? "" : "+").append("1/8:(x'=(x+").append(i).append(")%512)");
        }
        String full = "var x:0..511;" + eight + ";";
        e.says("4: 5 MANY: the 4097th branch (at max or min)");
        e.found(512, full + "target false;");
        e.stuck(5, 511, full + " @max x=511->1:stay;target false;");
        e.stuck(5, 511, full + "max false->1:stay; @max x=511->1/2:(x'=0)+1/2:stay;target false;");
        e.stuck(5, 511, "var x:0..511;max x=0->1:stay;@" + eight + ";target false;");
        e.stuck(5, 511, "var x:0..511;min x=0->1:stay;@" + eight.toString().replace("max", "min") + ";target false;");
        e.found(512, full + "max x=511->1:stay;target x=510;");
        ChanceArena again = Edges.compiled(full + "target false;");
        e.due("explored again and again", again.explore() + " " + again.explore() + " " + again.explore() + " " + again.states() + " "
            + Edges.branches(again, 511, 0).startsWith("511:1/8 0:1/8"), "0 0 0 512 true");
        e.says("4: 5 MANY: what is joined to another one is none");
        StringBuilder seven = new StringBuilder("max true->");
        for (int i = 0; i < 7; i++) {
            seven.append("1/8:(x'=(x+").append(i).append(")%512)+");
        }
        e.found(512, "var x:0..511;" + seven + "1/8:stay;max true->1/8:stay+7/8:(x'=x);target false;");
        e.stuck(5, 511, "var x:0..511;" + seven + "1/8:stay;max true->1:stay;@max x=511->1:stay;target false;");
        String ones = "var x:0..511;max x<511->1:(x'=x+1);" + Edges.times("max true->1:stay;", 7);
        e.found(512, ones + "max x=511->1:stay;target false;");
        e.stuck(5, 511, ones + "max x=511->1:stay;@max x=511->1:stay;target false;");
        e.says("4: 5 MANY: the state goes before the branch");
        String more = "var x:0..600;" + eight + ";";
        e.stuck(5, 511, more + "max x=511->@1:(x'=600);target false;");
        e.stuck(12, 511, full + "max x=511->1:@(x'=600);target false;");
        e.stuck(11, 511, full + "@max x=511->1/2:stay;target false;");
    }
}
