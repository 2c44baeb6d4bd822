/** The edges that part 5 of the document names: which states there are, in which order, and their commands. */
public final class StatesEdgesTest {
    private final Edges e = new Edges();

    public static void main(String[] args) {
        StatesEdgesTest test = new StatesEdgesTest();
        test.order();
        test.targets();
        test.guards();
        test.chancesInTheirOrder();
        test.chancesThatAreZero();
        test.valuesBefore();
        test.joined();
        test.kinds();
        test.e.finish();
    }

    private void order() {
        e.says("5: State 0 has the inits");
        e.due("inits", Edges.states(Edges.explored("var a:-3..3 init 2;var b:bool init true;var c:4..9;var d:bool;target true;")), "2,1,4,0");
        e.due("no vars", Edges.explored("target false;").states(), 1);
        e.says("5: States are looked at in the order of their numbers, commands in the order of the text, branches from the left");
        ChanceArena arena = Edges.explored("var x:0..20;max x=0->1/2:(x'=5)+1/2:(x'=3);max x=0->1:(x'=9);max x=5->1:(x'=7);max x=5->1/3:(x'=3)"
            + "+2/3:(x'=8);max x=3->1:(x'=1);max x=9->1:(x'=2);max x=7->1:(x'=0);target false;");
        e.due("states", Edges.states(arena), "0 5 3 9 7 8 1 2");
        e.due("branches", Edges.branches(arena, 0, 0) + ", " + Edges.branches(arena, 0, 1) + ", " + Edges.branches(arena, 1, 1) + ", "
            + Edges.branches(arena, 4, 0), "1:1/2 2:1/2, 3:1/1, 2:1/3 5:2/3, 0:1/1");
        e.says("5: where it leads to is a state that is known, or the next number");
        ChanceArena known = Edges.explored("var x:0..2;var y:0..2;max true->1:(x'=(x+1)%3);max true->1:(y'=(y+1)%3);target false;");
        e.due("states", Edges.states(known), "0,0 1,0 0,1 2,0 1,1 0,2 2,1 1,2 2,2");
        e.says("5: states are the same if all vars have the same values");
        e.due("the last var counts", Edges.states(Edges.explored(Edges.many("var v*:0..1;", 12) + "max v11=0->1:(v11'=1);target false;")),
            "0,0,0,0,0,0,0,0,0,0,0,0 0,0,0,0,0,0,0,0,0,0,0,1");
        ChanceArena twelve = Edges.explored(Edges.many("var v*:0..1;", 12) + "max v11=0->1:(v11'=1);max v11=0->1:stay;max v11=1->1:(v11'=0);target false;");
        e.due("all twelve are the same", twelve.states() + ", " + Edges.branches(twelve, 0, 1) + ", " + Edges.branches(twelve, 1, 0), "2, 0:1/1, 0:1/1");
        e.due("the first var counts", Edges.states(Edges.explored("var a:-1..1;var b:0..1;max a=-1->1:(a'=1);max a=1->1:(a'=0);target false;")),
            "-1,0 1,0 0,0");
        e.due("all of them", Edges.explored(Edges.many("var v*:0..1;", 8) + flips(8) + "target false;").states(), 256);
    }

    /** Commands each of which changes one of as many bits. */
    private static String flips(int bits) {
        StringBuilder all = new StringBuilder();
        for (int i = 0; i < bits; i++) {
            all.append("max true->1:(v").append(i).append("'=1-v").append(i).append(");");
        }
        return all.toString();
    }

    private void targets() {
        e.says("5: A TARGET state is one where the target is true: none of its commands is looked at");
        ChanceArena arena = Edges.explored("var x:0..3;max x<3->1:(x'=x+1);target x=1;");
        e.due("states", Edges.states(arena) + " " + Edges.kinds(arena) + " " + arena.commands(1), "0 1 13 0");
        e.found(1, "max 1/0=1->1:stay;target true;");
        e.stuck(7, 0, "max 1@/0=1->1:stay;target false;");
        e.found(1, "max true->2:stay;target true;");
        e.found(1, "max true->1:stay;min true->1:stay;target true;");
        e.found(1, "var x:0..1;max true->1:(x'=2);target true;");
        e.found(2, "var x:0..1;max x=0->1:(x'=1);max 1/(1-x)=1->1:stay;target x=1;");
        e.stuck(7, 1, "var x:0..1;max x=0->1:(x'=1);max 1@/(1-x)=1->1:stay;target false;");
        e.says("5: state 0 may be one");
        ChanceArena first = Edges.explored("var x:0..1;max true->1:(x'=1);target x=0;");
        e.due("kind", first.kind(0) + " " + first.states() + " " + first.commands(0), "3 1 0");
        e.says("5: the target is looked at first");
        e.stuck(7, 0, "max 2%0=1->1:stay;target 1@/0=1;");
    }

    private void guards() {
        e.says("5: its guard; if that is true, it is ENABLED");
        ChanceArena arena = Edges.explored("var x:0..3;max x=1->1:(x'=0);max x=0->1:(x'=1);max x=1->1:(x'=2);max x=0->1:stay;target x=2;");
        e.due("commands", arena.commands(0) + " " + arena.command(0, 0) + " " + arena.command(0, 1) + " " + arena.command(0, 2), "2 1 3 -1");
        e.due("commands", arena.commands(1) + " " + arena.command(1, 0) + " " + arena.command(1, 1), "2 0 2");
        e.says("5: of one that is not enabled nothing else is looked at");
        e.found(1, "max false->1/0:stay;target false;");
        e.found(1, "max false->2:stay;target false;");
        e.found(1, "var x:0..1;max false->1:(x'=2);target false;");
        e.says("5: commands in the order of the text");
        e.stuck(7, 0, "max 1@/0=1->1:stay;max true->2:stay;target false;");
        e.stuck(11, 0, "max true->@2:stay;max 1/0=1->1:stay;target false;");
        e.stuck(12, 0, "var x:0..1;max true->1:@(x'=2);max 1/0=1->1:stay;target false;");
    }

    private void chancesInTheirOrder() {
        e.says("5: all its chances are worked out, from the left, then the multiple (6) and the sum (11); then the sets");
        e.stuck(7, 0, "var x:0..1;max true->1/2:(x'=2)+1@/0:stay;target false;");
        e.stuck(7, 0, "var x:0..1;max true->1@/0:stay+2%0:stay;target false;");
        e.stuck(11, 0, "var x:0..1;@max true->1/2:(x'=2)+1/3:stay;target false;");
        e.stuck(6, 0, "var x:0..1;@max true->1/512:(x'=2)+1/1953125:stay;target false;");
        e.stuck(12, 0, "var x:0..1;max true->1/2:@(x'=2)+1/2:(x'=1/0);target false;");
        e.stuck(7, 0, "var x:0..1;max true->1/2:(x'=1@/0)+1/2:(x'=2);target false;");
        e.says("5: a command's sets before the next command's guard");
        e.stuck(12, 0, "var x:0..1;max true->1:@(x'=2);max 1/0=1->1:stay;target false;");
    }

    private void chancesThatAreZero() {
        e.says("5: for each branch whose chance is not 0, its sets");
        e.found(1, "var x:0..1;max true->0:(x'=2)+1:stay;target false;");
        e.found(1, "var x:0..1;max true->0:(x'=1/0)+1:stay;target false;");
        e.found(1, "var x:0..1;max true->1:stay+0:(x'=1/2);target false;");
        e.found(1, "var x:0..1;max true->0:(x'=1)+1:stay;target false;");
        e.stuck(12, 0, "var x:0..1;max true->1/999999999:@(x'=2)+999999998/999999999:stay;target false;");
        e.says("5: what has the chance 0 is no branch");
        ChanceArena arena = Edges.explored("var x:0..3;max x=0->0:(x'=1)+1/2:(x'=2)+0*5:(x'=2)+1/2:(x'=3)+0/7:stay;target x=3;");
        e.due("branches", Edges.states(arena) + ", " + Edges.branches(arena, 0, 0) + ", " + arena.branches(0, 0), "0 2 3, 1:1/2 2:1/2, 2");
        ChanceArena sure = Edges.explored("var x:0..3;max x=0->1-x:(x'=1)+x:(x'=2);max x=1->1-x:(x'=1)+x:(x'=2);target x=3;");
        e.due("branches", Edges.branches(sure, 0, 0) + ", " + Edges.branches(sure, 1, 0), "1:1/1, 2:1/1");
        e.says("5: its chance is worked out nevertheless");
        e.stuck(7, 0, "var x:0..1;max true->0*(1@/0):stay+1:stay;target false;");
    }

    private void valuesBefore() {
        e.says("5: by the values that are there before");
        e.due("swapped", Edges.states(Edges.explored("var x:0..9 init 3;var y:0..9 init 5;max x=3->1:(x'=y)&(y'=x);target false;")), "3,5 5,3");
        e.due("each branch", Edges.states(Edges.explored("var x:0..9;max x=0->1/2:(x'=x+1)+1/2:(x'=x+2);target false;")), "0 1 2");
        e.due("formulas, too", Edges.states(Edges.explored(
            "var x:0..9;var y:0..9;formula f=x+1;max x=0->1:(x'=f+3)&(y'=f);target false;")), "0,0 4,1");
        e.says("5: vars that are not set, and with stay all, keep theirs");
        e.due("kept", Edges.states(Edges.explored("var x:0..9 init 3;var y:0..9 init 5;var b:bool init true;max x=3->1:(y'=6)&(x'=4);"
            + "max x=4->1:(b'=false)&(x'=5);max x=5->1:stay;target false;")), "3,5,1 4,6,1 5,6,0");
        ChanceArena stay = Edges.explored("var x:0..9 init 3;max true->1:stay;target false;");
        e.due("stay", Edges.states(stay) + " " + Edges.branches(stay, 0, 0), "3 0:1/1");
    }

    private void joined() {
        e.says("5: Branches of one command that lead to the same state are one, with both chances, where the first one stands");
        ChanceArena arena = Edges.explored("var x:0..3;max x=0->1/6:(x'=1)+1/4:(x'=2)+1/3:(x'=1)+1/4:stay;target x=3;");
        e.due("two", Edges.branches(arena, 0, 0), "1:1/2 2:1/4 0:1/4");
        ChanceArena all = Edges.explored("var x:0..3;max x=0->1/8:stay+1/8:(x'=0)+3/4:(x'=x);target x=3;");
        e.due("all", all.states() + ", " + Edges.branches(all, 0, 0), "1, 0:1/1");
        ChanceArena eight = Edges.explored("var x:0..3;max x=0->" + Edges.times("1/8:(x'=1)+", 7) + "1/8:(x'=1);target x=3;");
        e.due("eight", Edges.branches(eight, 0, 0), "1:1/1");
        ChanceArena last = Edges.explored("var x:0..3;max x=0->1/5:(x'=2)+1/5:(x'=1)+1/5:(x'=3)+1/5:(x'=3)+1/5:(x'=2);target x=3;");
        e.due("in the order of the first ones", Edges.states(last) + ", " + Edges.branches(last, 0, 0), "0 2 1 3, 1:2/5 2:1/5 3:2/5");
        e.says("5: of one command");
        ChanceArena two = Edges.explored("var x:0..3;max x=0->1/2:(x'=1)+1/2:(x'=2);max x=0->1/2:(x'=1)+1/2:(x'=1);max x=0->1:(x'=1);target x=3;");
        e.due("not of two", Edges.branches(two, 0, 0) + ", " + Edges.branches(two, 0, 1) + ", " + Edges.branches(two, 0, 2),
            "1:1/2 2:1/2, 1:1/1, 1:1/1");
        e.says("15: its chance in least terms");
        ChanceArena least = Edges.explored("var x:0..3;max x=0->2/6:(x'=1)+1/6:(x'=1)+3/6:(x'=2);target x=3;");
        e.due("least terms", Edges.branches(least, 0, 0), "1:1/2 2:1/2");
        ChanceArena large = Edges.explored("var x:0..3;max x=0->1/999999999:(x'=1)+999999998/999999999:(x'=2);target x=3;");
        e.due("large", Edges.branches(large, 0, 0), "1:1/999999999 2:999999998/999999999");
    }

    private void kinds() {
        e.says("5: Commands of max make it MAX'S state, those of min MIN'S; without enabled ones it is an END");
        ChanceArena arena = Edges.explored("var x:0..3;max x=0->1:(x'=1);min x=1->1/2:(x'=2)+1/2:(x'=3);max x=2&false->1:stay;target x=3;");
        e.due("kinds", Edges.kinds(arena), "1203");
        e.due("no commands", Edges.kinds(Edges.explored("target false;")) + Edges.kinds(Edges.explored("target true;")), "03");
        e.due("an end's", arena.commands(2) + " " + arena.commands(3) + " " + arena.command(2, 0) + " " + arena.branches(2, 0), "0 0 -1 -1");
        e.says("5: a state is of one sort in each text, whatever it was before");
        ChanceArena again = Edges.explored("max true->1:stay;target false;");
        e.due("max's", again.kind(0), 1);
        Harness.compile(again, "min true->1:stay;target false;");
        again.explore();
        e.due("min's", again.kind(0), 2);
        Harness.compile(again, "target true;");
        again.explore();
        e.due("a target", again.kind(0) + " " + again.commands(0), "3 0");
        Harness.compile(again, "target false;");
        again.explore();
        e.due("an end", again.kind(0) + " " + again.commands(0), "0 0");
    }
}
