/** The edges that part 3 of the document names: numbers, truths, names, and how many there may be. */
public final class NamesEdgesTest {
    private final Edges e = new Edges();

    public static void main(String[] args) {
        NamesEdgesTest test = new NamesEdgesTest();
        test.sizes();
        test.whole();
        test.rest();
        test.comparisons();
        test.leftOut();
        test.leastAndMost();
        test.knownFrom();
        test.formulas();
        test.vars();
        test.howManyVars();
        test.howManyNumbers();
        test.howManyNames();
        test.howManyCommands();
        test.howManyBranches();
        test.oneTarget();
        test.farTooMany();
        test.e.finish();
    }

    private void sizes() {
        e.says("3: in least terms both parts are below 1000000000 in size: above");
        e.worth("999999998+1", "999999999");
        e.ruleFault(6, "999999999@+1");
        e.worth("-999999998-1", "-999999999");
        e.ruleFault(6, "-999999999@-1");
        e.worth("333333333*3", "999999999");
        e.ruleFault(6, "500000000@*2");
        e.worth("-333333333*3", "-999999999");
        e.ruleFault(6, "-500000000@*2");
        e.ruleFault(6, "500000000@*-2");
        e.worth("-333333333*-3", "999999999");
        e.ruleFault(6, "-500000000@*-2");
        e.worth("333333333/(1/3)", "999999999");
        e.ruleFault(6, "500000000@/(1/2)");
        e.ruleFault(6, "-500000000@/(1/2)");
        e.ruleFault(6, "500000000@/(-1/2)");
        e.ruleFault(6, "999999999@*999999999");
        e.ruleFault(6, "-999999999@*999999999");
        e.ruleFault(6, "999999999@/(1/999999999)");
        e.ruleFault(6, "999999999@+999999999");
        e.ruleFault(6, "-999999999@-999999999");
        e.ruleFault(6, "1/2@+999999999");
        e.worth("1/2+499999999", "999999999/2");
        e.ruleFault(6, "1/2@+500000000");
        e.says("3: in least terms both parts are below 1000000000 in size: below");
        e.rule("1/333333333/3");
        e.ruleFault(6, "1/500000000@/2");
        e.rule("-1/333333333/3");
        e.rule("1/333333333/-3");
        e.ruleFault(6, "-1/500000000@/2");
        e.ruleFault(6, "1/500000000@/-2");
        e.ruleFault(6, "1/500000000@*(1/2)");
        e.ruleFault(6, "1/31623@-1/31624");
        e.rule("1/31622-1/31623");
        e.ruleFault(6, "1/31623@+1/31624");
        e.rule("1/31622+1/31623");
        e.ruleFault(6, "1/999999999@/999999999");
        e.rule("1/999999999");
        e.rule("999999998/999999999");
        e.says("3: in least terms");
        e.worth("2/500000000/2", "1/500000000");
        e.worth("999999999/999999999", "1");
        e.worth("999999999/3*3", "999999999");
        e.worth("999999998/999999999+1/999999999", "1");
        e.worth("999999999/2*(2/999999999)", "1");
        e.worth("6/4", "3/2");
        e.worth("-6/4", "3/-2");
        e.worth("0/-5", "0");
        e.worth("1/3+1/6", "1/2");
        e.worth("1/999999999-1/999999999", "0");
        e.worth("1/3*3", "1");
        e.worth("(3/2/1<2)", "true");
        e.worth("3/2/1+1/2", "2");
        e.worth("(-3/2/1>-2)", "true");
        e.worth("(3/2/-1<-1)", "true");
        e.worth("3/2/-1-1/2", "-2");
        e.ruleFault(6, "999999999@*2/2");
        e.ruleFault(6, "(999999999@+1)-1");
        e.says("3: exact");
        e.worth("1/3+1/3+1/3=1", "true");
        e.worth("1/10+2/10=3/10", "true");
        e.worth("999999998/999999999<1", "true");
        e.worth("999999997/999999998<999999998/999999999", "true");
        e.worth("-999999998/999999999<-999999997/999999998", "true");
    }

    private void whole() {
        e.says("3: a WHOLE one has 1 below");
        e.stands("var x:4/2..9/3 init 6/2;target x=3;");
        e.fault(8, "var x:@1/2..9;target true;");
        e.stands("const h=1/2;var x:h+h..h*4;target x=1;");
        e.worth("6/2%2", "1");
        for (String[] quotient : new String[][] {{"6/1", "6"}, {"6/-1", "-6"}, {"-6/-1", "6"}, {"-6/1", "-6"}, {"6/-2", "-3"}, {"-6/-2", "3"}, {"0/1", "0"},
                {"0/-1", "0"}, {"0/-7", "0"}, {"0*(1/2)", "0"}, {"1/2-1/2", "0"}, {"1/3/(1/3)", "1"}, {"1/3/(-1/3)", "-1"}}) {
            e.worth(quotient[0], quotient[1]);
            e.worth("(" + quotient[0] + ")%5", quotient[1] + "%5");
            e.stands("var x:" + quotient[0] + "..9;target x=" + quotient[1] + ";");
            e.worth("((" + quotient[0] + ")<" + quotient[1] + "+1/2)", "true");
            e.worth("((" + quotient[0] + ")>" + quotient[1] + "-1/2)", "true");
        }
        e.ruleFault(8, "5/2@%2");
    }

    private void rest() {
        e.says("3: a % b, both whole, b above 0: what is left, 0 .. b - 1");
        e.worth("0%3", "0");
        e.worth("1%3", "1");
        e.worth("2%3", "2");
        e.worth("3%3", "0");
        e.worth("4%3", "1");
        e.worth("-1%3", "2");
        e.worth("-2%3", "1");
        e.worth("-3%3", "0");
        e.worth("-4%3", "2");
        e.worth("5%1", "0");
        e.worth("-5%1", "0");
        e.worth("999999999%999999999", "0");
        e.worth("999999998%999999999", "999999998");
        e.worth("-1%999999999", "999999998");
        e.worth("-999999999%999999999", "0");
        e.ruleFault(7, "1@%0");
        e.ruleFault(7, "0@%0");
        e.ruleFault(7, "1@%-1");
        e.ruleFault(7, "-5@%(0-3)");
    }

    private void comparisons() {
        e.says("3: = and != compare numbers, or truths; < <= > >= numbers");
        String[] signs = {"=", "!=", "<", "<=", ">", ">="};
        String[][] sides = {{"1", "2"}, {"2", "2"}, {"2", "1"}, {"-1", "1"}, {"-1", "-2"}, {"1/3", "1/2"}, {"2/4", "1/2"}, {"1/2", "-1/2"}};
        boolean[][] due = {
            {false, true, true, true, false, false}, {true, false, false, true, false, true}, {false, true, false, false, true, true},
            {false, true, true, true, false, false}, {false, true, false, false, true, true}, {false, true, true, true, false, false},
            {true, false, false, true, false, true}, {false, true, false, false, true, true}};
        for (int i = 0; i < sides.length; i++) {
            for (int j = 0; j < signs.length; j++) {
                e.worth("(" + sides[i][0] + signs[j] + sides[i][1] + ")", String.valueOf(due[i][j]));
            }
        }
        e.worth("(true=true)", "true");
        e.worth("(true=false)", "false");
        e.worth("(false=false)", "true");
        e.worth("(false!=false)", "false");
        e.worth("(false!=true)", "true");
        for (String sign : new String[] {"<", "<=", ">", ">="}) {
            e.ruleFault(3, "true@" + sign + "false");
            e.ruleFault(3, "1@" + sign + "false");
            e.ruleFault(3, "true@" + sign + "1");
        }
        e.ruleFault(3, "1@=true");
        e.ruleFault(3, "true@=1");
        e.ruleFault(3, "1@!=true");
        e.ruleFault(3, "true@!=1");
    }

    private void leftOut() {
        e.says("3: a & b: b is worked out only if a is true");
        e.worth("(false&1/0=1)", "false");
        e.ruleFault(7, "true&1@/0=1");
        e.ruleFault(7, "1@/0=1&false");
        e.worth("(true&false)", "false");
        e.worth("(true&true)", "true");
        e.worth("(false&true&1/0=1)", "false");
        e.worth("(true&false&1/0=1)", "false");
        e.ruleFault(7, "true&true&1@/0=1");
        e.worth("(false&1/0=1|true)", "true");
        e.says("3: a | b only if a is false");
        e.worth("(true|1/0=1)", "true");
        e.ruleFault(7, "false|1@/0=1");
        e.ruleFault(7, "1@/0=1|true");
        e.worth("(false|false)", "false");
        e.worth("(false|true)", "true");
        e.worth("(true|false|1/0=1)", "true");
        e.worth("(false|true|1/0=1)", "true");
        e.ruleFault(7, "false|false|1@/0=1");
        e.ruleFault(7, "(true|true)&1@/0=1");
        e.worth("(true|1/0=1&1/0=1)", "true");
        e.says("3: a ? b : c only the one that is wanted");
        e.worth("true?1:1/0", "1");
        e.worth("false?1/0:2", "2");
        e.ruleFault(7, "true?1@/0:1");
        e.ruleFault(7, "false?1:1@/0");
        e.ruleFault(7, "1@/0=1?1:2");
        e.worth("true?false?1/0:1:1/0", "1");
        e.worth("(true?true:1/0=1)", "true");
        e.worth("false?1/0:true?3:1/0", "3");
    }

    private void leastAndMost() {
        e.says("3: least, most: of numbers (all are worked out)");
        e.worth("least(7)", "7");
        e.worth("most(7)", "7");
        e.worth("least(2,1)", "1");
        e.worth("least(1,2)", "1");
        e.worth("most(2,1)", "2");
        e.worth("most(1,2)", "2");
        e.worth("least(3,1,2)", "1");
        e.worth("least(3,2,1)", "1");
        e.worth("most(1,3,2)", "3");
        e.worth("most(1,2,3)", "3");
        e.worth("least(1/2,1/3,2/3)", "1/3");
        e.worth("most(1/2,1/3,2/3)", "2/3");
        e.worth("least(-1,-2,0)", "-2");
        e.worth("most(-3,-2,-1)", "-1");
        e.worth("least(1,1)", "1");
        e.worth("most(most(1,2),least(3,4))", "3");
        e.ruleFault(7, "least(1,1@/0)");
        e.ruleFault(7, "most(1@/0,1)");
        e.ruleFault(7, "most(1,2,1@/0,2%0)");
        e.worth("(true|1<least(1,2))", "true");
        e.worth("(true&1=most(1))", "true");
        e.worth("(false|2>least(3,1,2)&true)", "true");
        e.ruleFault(3, "@least(true)");
        e.ruleFault(3, "@most(1,true)");
        e.ruleFault(3, "@most(true,1)");
        e.ruleFault(3, "@least(1,true,1)");
    }

    private void knownFrom() {
        e.says("3: A NAME is known from the ';' of its item on");
        for (String word : new String[] {"const", "formula"}) {
            e.fault(2, word + " a=@a;target true;");
            e.fault(2, word + " b=@a;const a=1;target true;");
            e.stands(word + " a=1;" + word + " b=a;target b=1;");
        }
        e.fault(2, "var x:0..@x;target true;");
        e.fault(2, "var x:@x..1;target true;");
        e.fault(2, "var x:0..1 init @x;target true;");
        e.fault(2, "target @x=1;var x:0..1;");
        e.fault(2, "max @x=1->1:stay;var x:0..1;target true;");
        e.fault(2, "max true->1:(@x'=1);var x:0..1;target true;");
        e.stands("var x:0..1;max x=1->1:(x'=1);target x=1;");
        e.says("3: a const has the value of its rule, which has consts only");
        e.stands("const a=2;const b=a*a+a;target b=6;");
        e.stands("const a=1=1;const b=!a;target !b;");
        e.fault(2, "var x:0..1;const a=@x;target true;");
        e.fault(2, "formula f=1;const a=@f;target true;");
        e.fault(2, "const b=1;formula f=b;const a=b+@f;target true;");
        e.says("3: ranges and inits have consts only");
        e.stands("const a=2;var x:a..a+a init a+1;target x=3;");
        e.stands("const t=true;var x:bool init t;target x;");
        for (String known : new String[] {"var y:0..1;", "formula y=1;"}) {
            e.fault(2, known + "var x:@y..1;target true;");
            e.fault(2, known + "var x:0..@y;target true;");
            e.fault(2, known + "var x:0..1 init @y;target true;");
        }
        e.fault(2, "var y:bool;var x:bool init @y;target true;");
        e.fault(2, "formula y=true;var x:bool init @y;target true;");
    }

    private void formulas() {
        e.says("3: a formula has in each state the value of its rule");
        ChanceArena arena = Edges.explored("var x:0..3;formula f=x+1;formula g=f*f;max x<3->1:(x'=f);target g=16;");
        e.due("states", Edges.states(arena) + " " + Edges.kinds(arena), "0 1 2 3 1113");
        e.stands("formula f=1;formula g=true;formula h=g?f:2;target h=1;");
        e.says("3: worked out when it is met there first");
        e.stands("formula f=1/0;target true;");
        e.found(1, "formula f=1/0;target true;");
        e.stuck(7, 0, "formula f=1@/0;target f=1;");
        e.stuck(7, 1, "var x:0..3;formula f=1@/(1-x);max f=1->1:(x'=x+1);target x=3;");
        e.stuck(7, 0, "formula f=1@/0;formula g=f+1;target g=1;");
        e.stuck(7, 0, "formula f=1@/0;formula g=2%0;target f=g;");
        e.stuck(7, 0, "formula f=1/0;formula g=2@%0;target g=f;");
        e.stuck(6, 0, "var x:0..1;formula f=(x+999999999)@*2;target f=1;");
        e.stuck(8, 0, "var x:0..1;formula f=(x+1)/2@%2;target f=1;");
        e.says("3: the value of its rule, wherever it is met");
        e.due("a fraction", Edges.explored("formula f=1/3;target f+f+f=1&f=2/6&f<1/2;").kind(0), 3);
        e.due("a truth", Edges.explored("formula f=1=1;formula g=!f;target f&!g&f&!g;").kind(0), 3);
        StringBuilder wide = new StringBuilder("formula f0=5;");
        StringBuilder twice = new StringBuilder("formula f0=5;");
        for (int i = 1; i < 60; i++) {
            wide.append("formula f").append(i).append("=1-(2-(3-(2-f").append(i - 1).append(")));");
            twice.append("formula f").append(i).append("=least(f").append(i - 1).append(",f").append(i - 1).append(");");
        }
        e.due("one in another", Edges.explored(wide + "target f59=5;").kind(0), 3);
        e.due("twice the same", Edges.explored(twice + "target f59=5;").kind(0), 3);
        e.says("3: in what is not worked out it is not met");
        e.found(1, "formula f=1/0;target true|f=1;");
        e.found(1, "formula f=1/0;target !(false&f=1);");
        e.found(1, "formula f=1/0;target (true?1:f)=1;");
        e.found(1, "formula f=1/0;formula g=true|f=1;target g;");
        e.found(1, "formula f=1/0;max false->f:stay;target false;");
        e.found(1, "formula f=1/0;max true->f:stay;target true;");
        e.stuck(7, 0, "formula f=1@/0;target false|f=1;");
    }

    private void vars() {
        e.says("3: a bool's is a truth (init false, if none is told)");
        e.due("init", Edges.states(Edges.explored("var a:bool;var b:bool init true;var c:bool init false;target true;")), "0,1,0");
        e.found(1, "var a:bool;target !a&a=false;");
        e.says("3: another one's a whole number from its range's first number to its last one (init the first, if none is told)");
        e.due("init", Edges.states(Edges.explored("var a:3..9;var b:-9..-3;var c:-1..1;var d:3..9 init 5;target true;")), "3,-9,-1,5");
        e.due("one number", Edges.states(Edges.explored("var a:3..3;var b:0..0;var c:-4..-4 init -4;target true;")), "3,0,-4");
        e.stands("var a:-999999999..-999990000;var b:999990000..999999999 init 999999999;target b=999999999;");
        e.due("ends", Edges.states(Edges.explored("var a:999990000..999999999;max a<999999999->1:(a'=999999999);target false;")),
            "999990000 999999999");
    }

    private void howManyVars() {
        e.says("3: 12 vars at most");
        e.stands(Edges.many("var v*:bool;", 12) + "target v11=v0;");
        e.fault(5, Edges.many("var v*:bool;", 12) + "@var w:bool;target true;");
        e.fault(5, Edges.many("var v*:bool;", 12) + "target true;@var w:0..1;");
        e.due("twelve", Edges.compiled(Edges.many("var v*:bool;", 12) + "target true;").items(0), 12);
        ChanceArena arena = Edges.explored(Edges.many("var v*:0..9 init *%10;", 12) + "max v11=1->1:(v11'=7)&(v0'=3);target false;");
        e.due("all twelve have values", Edges.states(arena), "0,1,2,3,4,5,6,7,8,9,0,1 3,1,2,3,4,5,6,7,8,9,0,7");
    }

    private void howManyNumbers() {
        e.says("3: of at most 10000 numbers each");
        e.stands("var x:0..9999;target true;");
        e.fault(9, "var x:0..@10000;target true;");
        e.stands("var x:1..10000;target true;");
        e.fault(9, "var x:1..@10001;target true;");
        e.stands("var x:-5000..4999;target true;");
        e.fault(9, "var x:-5000..@5000;target true;");
        e.stands("var x:-10000..-1;target true;");
        e.fault(9, "var x:-10000..@0;target true;");
        e.fault(9, "var x:-999999999..@999999999;target true;");
        e.stands(Edges.many("var v*:0..9999;", 12) + "target true;");
    }

    private void howManyNames() {
        e.says("3: 60 consts and formulas");
        e.stands(Edges.many("const c*=1;", 60) + "target c59=c0;");
        e.fault(5, Edges.many("const c*=1;", 60) + "@const d=1;target true;");
        e.fault(5, Edges.many("const c*=1;", 60) + "@formula d=1;target true;");
        e.stands(Edges.many("formula c*=1;", 60) + "target c59=c0;");
        e.fault(5, Edges.many("formula c*=1;", 60) + "@formula d=1;target true;");
        e.fault(5, Edges.many("formula c*=1;", 60) + "@const d=1;target true;");
        String both = Edges.many("const c*=1;formula f*=c*;", 30);
        e.stands(both + "target f29=f0;");
        e.fault(5, both + "@const d=1;target true;");
        e.fault(5, both + "target true;@formula d=1;");
        e.due("sixty", Edges.compiled(both + "target true;").items(1), 60);
        e.stands(both + Edges.many("var v*:bool;", 12) + "target v11&f29=c29;");
        e.stands(Edges.many("var v*:bool;", 12) + both + "target v11&f29=c29;");
        e.fault(5, both + Edges.many("var v*:bool;", 12) + "@const d=1;target true;");
        e.fault(5, both + Edges.many("var v*:bool;", 12) + "@var d:bool;target true;");
        String chain = "formula f0=1;" + Edges.many("formula g*=*+f0;", 59);
        ChanceArena arena = Edges.explored(chain + "target g58=59;");
        e.due("sixty formulas", arena.kind(0), 3);
        StringBuilder tower = new StringBuilder("formula f0=1;");
        for (int i = 1; i < 60; i++) {
            tower.append("formula f").append(i).append("=f").append(i - 1).append("+1;");
        }
        e.due("each by the one before", Edges.explored(tower + "target f59=60;").kind(0), 3);
    }

    private void howManyCommands() {
        e.says("3: 60 commands");
        e.stands(Edges.times("max true->1:stay;", 60) + "target true;");
        e.fault(5, Edges.times("max true->1:stay;", 60) + "@max true->1:stay;target true;");
        e.fault(5, Edges.times("max true->1:stay;", 60) + "@min true->1:stay;target true;");
        e.stands(Edges.times("max true->1:stay;min true->1:stay;", 30) + "target true;");
        e.fault(5, Edges.times("min true->1:stay;max true->1:stay;", 30) + "target true;@min true->1:stay;");
        ChanceArena arena = Edges.explored(Edges.times("min true->1:stay;", 60) + "target false;");
        e.due("sixty", arena.items(2) + " " + arena.commands(0) + " " + arena.command(0, 59) + " " + arena.command(0, 60), "60 60 59 -1");
    }

    private void howManyBranches() {
        e.says("3: 8 branches a command");
        String seven = "max true->" + Edges.times("1/8:stay+", 7);
        e.stands(seven + "1/8:stay;target true;");
        e.fault(5, seven + "1/8:stay+@1/8:stay;target true;");
        e.fault(5, seven + "1/8:stay+@0:stay;target true;");
        e.fault(5, seven + "1/8:stay+@(0):stay+0:stay;target true;");
        e.stands(seven + "1/8:stay;" + seven + "1/8:stay;target true;");
        StringBuilder all = new StringBuilder("var x:0..8;max x=0->");
        for (int i = 1; i <= 8; i++) {
            all.append(i == 1 ? "" : "+").append("1/8:(x'=").append(i).append(")");
        }
        ChanceArena arena = Edges.explored(all + ";target x=8;");
        e.due("eight", arena.branches(0, 0) + " " + arena.branch(0, 0, 7, 0) + " " + arena.branch(0, 0, 8, 0), "8 8 -1");
        e.stands(Edges.times(seven + "1/8:stay;", 60) + "target true;");
        String command = all.substring("var x:0..8;".length()) + ";";
        ChanceArena full = Edges.explored("var x:0..8;" + Edges.times(command, 60) + "target x>0;");
        e.due("all of them", full.commands(0) + ": " + Edges.branches(full, 0, 59),
            "60: 1:1/8 2:1/8 3:1/8 4:1/8 5:1/8 6:1/8 7:1/8 8:1/8");
    }

    private void farTooMany() {
        e.says("3: far more than there may be");
        e.fault(5, Edges.many("var v*:bool;", 12) + "@" + Edges.many("var w*:0..1;", 800) + "target true;");
        e.fault(5, Edges.many("const c*=1;", 60) + "@" + Edges.many("formula f*=c0;", 800) + "target true;");
        e.fault(5, Edges.times("max true->1/2:stay+1/2:stay;", 60) + "@" + Edges.times("min true->1/2:stay+1/2:stay;", 500) + "target true;");
        e.fault(5, "max true->" + Edges.times("0:stay+", 8) + "@" + Edges.times("0:stay+", 2000) + "1:stay;target true;");
        e.fault(5, Edges.times("max true->" + Edges.times("0:stay+", 7) + "1:stay;", 30) + "max true->" + Edges.times("0:stay+", 8) + "@"
            + Edges.times("0:stay+", 1500) + "1:stay;target true;");
        e.fault(4, "target true;@" + Edges.times("target true;", 1000));
        e.fault(4, "var x:0..1;max true->1:(x'=1)&(@x'=1)" + Edges.times("&(x'=1)", 1500) + ";target true;");
        e.fault(2, "const a=@b" + Edges.times("+b", 5000) + ";target true;");
        e.fault(1, "const a=" + Edges.times("(", 40) + "@" + Edges.times("(", 10000));
        e.fault(1, "const a=" + Edges.times("-", 40) + "@" + Edges.times("-", 10000));
        e.fault(1, "const a=" + Edges.times("!", 40) + "@" + Edges.times("!", 10000));
        e.fault(1, "const a=" + Edges.times("true?", 40) + "true@" + Edges.times("?true", 2000));
        e.stands("const a=least(" + Edges.times("1,", 5000) + "1);target a=1;");
        e.stands("const a=" + Edges.times("true&", 3000) + "true;target a;");
    }

    private void oneTarget() {
        e.says("3: just one target");
        e.stands("target true;");
        e.fault(10, "@");
        e.fault(10, "var x:0..1;max true->1:stay;@");
        e.fault(4, "target true;@target true;");
        e.fault(4, "target true;var x:0..1;@target true;target true;");
    }
}
