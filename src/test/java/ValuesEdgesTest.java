import java.math.BigInteger;

/** The edges that part 6 of the document names: values, refusals, ranks, choices, WITHIN, JUDGED. */
public final class ValuesEdgesTest {
    private static final int LARGE = 999999937;
    private final Edges e = new Edges();

    public static void main(String[] args) {
        ValuesEdgesTest test = new ValuesEdgesTest();
        test.targetsAndEnds();
        test.greatestAndLeast();
        test.leastNumbers();
        test.howManyUnknown();
        test.statesThatAreNotUnknown();
        test.eachWeight();
        test.whatWeighs();
        test.manyBeforeLarge();
        test.asManyAsThereMayBe();
        test.ranks();
        test.choices();
        test.within();
        test.withinBits();
        test.withinLeastTerms();
        test.judged();
        test.judgedRefusals();
        test.e.finish();
    }

    private static String values(String text) {
        return Edges.fractions(Edges.solved(text), 0);
    }

    private void targetsAndEnds() {
        e.says("6: targets have 1, ends 0");
        e.due("a target", values("target true;"), "1");
        e.due("an end", values("target false;"), "0");
        e.due("both", values("var x:0..2;max x=0->1/3:(x'=1)+2/3:(x'=2);target x=1;"), "1/3 1 0");
        e.due("solve", Edges.explored("target false;").solve() + " " + Edges.explored("target true;").solve(), "0 0");
    }

    private void greatestAndLeast() {
        e.says("6: MAX'S states the greatest, MIN'S the least of the commands' worths");
        String three = " x=0->1/2:(x'=1)+1/2:(x'=2);P x=0->1/3:(x'=1)+2/3:(x'=2);P x=0->3/4:(x'=1)+1/4:(x'=2);target x=1;";
        e.due("max", values("var x:0..2;P".replace("P", "max") + three.replace("P", "max")), "3/4 1 0");
        e.due("min", values("var x:0..2;P".replace("P", "min") + three.replace("P", "min")), "1/3 1 0");
        e.due("one command", values("var x:0..2;min x=0->1/2:(x'=1)+1/2:(x'=2);target x=1;"), "1/2 1 0");
        e.due("the last digit counts", values("var x:0..2;max x=0->999999997/999999998:(x'=1)+1/999999998:(x'=2);"
            + "max x=0->999999998/999999999:(x'=1)+1/999999999:(x'=2);target x=1;"), "999999998/999999999 1 0");
        e.due("the last digit counts", values("var x:0..2;min x=0->999999998/999999999:(x'=1)+1/999999999:(x'=2);"
            + "min x=0->999999997/999999998:(x'=1)+1/999999998:(x'=2);target x=1;"), "999999997/999999998 1 0");
        e.says("6: whatever min does");
        e.due("a game", values("var x:0..4;max x=0->1:(x'=1);max x=0->1/4:(x'=3)+3/4:(x'=4);min x=1->1/2:(x'=3)+1/2:(x'=4);"
            + "min x=1->1/3:(x'=3)+2/3:(x'=4);target x=3;"), "1/3 1/3 1 0");
    }

    private void leastNumbers() {
        e.says("6: of all numbers from 0 on, the least ones");
        e.due("stays for ever", values("var x:0..1;max true->1:stay;target x=1;"), "0");
        e.due("stays for ever", values("var x:0..1;min true->1:stay;target x=1;"), "0");
        e.due("a ring", values("var x:0..2;max x<2->1:(x'=1-x);target x=2;"), "0 0");
        e.due("max goes", values("var x:0..1;max x=0->1:stay;max x=0->1:(x'=1);target x=1;"), "1 1");
        e.due("min stays", values("var x:0..1;min x=0->1:stay;min x=0->1:(x'=1);target x=1;"), "0 1");
        e.due("min stays", values("var x:0..1;min x=0->1:(x'=1);min x=0->1:stay;target x=1;"), "0 1");
        e.due("min must go", values("var x:0..1;min x=0->999999998/999999999:stay+1/999999999:(x'=1);target x=1;"), "1 1");
        e.due("min in max's ring", values("var x:0..2;max x=0->1:(x'=1);min x=1->1:(x'=0);min x=1->1:(x'=2);target x=2;"), "0 0 1");
        e.due("max in min's ring", values("var x:0..2;min x=0->1:(x'=1);max x=1->1:(x'=0);max x=1->1:(x'=2);target x=2;"), "1 1 1");
        e.due("waiting is worth as much, but comes to none", values(
            "var x:0..3;max x=0->1:stay;max x=0->1/2:(x'=1)+1/2:(x'=2);target x=1;"), "1/2 1 0");
    }

    /** States in a row, each with the multiple that is told; the last one leads to the target, all may lead to an end. */
    private static String row(int... multiples) {
        StringBuilder text = new StringBuilder("var x:0..100;");
        for (int i = 0; i < multiples.length; i++) {
            text.append("max x=").append(i).append("->").append(step(i + 1, multiples[i]));
        }
        return text.append("target x=").append(multiples.length).append(";").toString();
    }

    private static String step(int to, int multiple) {
        return multiple == 1 ? "1:(x'=" + to + ");" : "1/" + multiple + ":(x'=" + to + ")+" + (multiple - 1) + "/" + multiple + ":(x'=100);";
    }

    private static Object solve(String text) {
        return Harness.answer(() -> Edges.explored(text).solve());
    }

    /** The state in which the first var has a value. */
    private static int at(ChanceArena arena, int value) {
        for (int k = 0; k < arena.states(); k++) {
            if (arena.variable(k, 0) == value) {
                return k;
            }
        }
        return -1;
    }

    private static int[] same(int count, int multiple) {
        int[] all = new int[count];
        java.util.Arrays.fill(all, multiple);
        return all;
    }

    private void howManyUnknown() {
        e.says("6: solve() is refused, if there are more than 40 (5 MANY)");
        e.due("39", solve(row(same(39, 1))), 0);
        e.due("40", solve(row(same(40, 1))), 0);
        e.due("41", solve(row(same(41, 1))), 5);
        e.due("59", solve(row(same(59, 1))), 5);
        e.due("40 of min's", solve(row(same(40, 2)).replace("max", "min")), 0);
        e.due("41 of min's", solve(row(same(41, 2)).replace("max", "min")), 5);
        e.due("511", solve("var x:0..511;max x<511->1:(x'=x+1);target x=511;"), 5);
    }

    private void statesThatAreNotUnknown() {
        e.says("6: An UNKNOWN state is no target and has a value above 0");
        // 40 states of a row, and others that come to no target, or are targets.
        e.due("ends", solve(row(same(40, 2)).replace("x'=100", "x'=x+50")), 0);
        e.due("one more way to them", solve(row(same(41, 2)).replace("x'=100", "x'=x+50")), 5);
        String more = "var x:0..100;max x<40->1/2:(x'=x+1)+1/2:(x'=x+50);";
        e.due("states of value 0", solve(more + "max x>=50->1:stay;target x=40;"), 0);
        e.due("min's states of value 0", solve(more + "min x>=50->1:stay;min x>=50->1:(x'=x-50);target x=40;"), 0);
        e.due("if min can't wait", solve(more + "min x>=50->1/2:stay+1/2:(x'=x-50);target x=40;"), 5);
        e.due("targets", solve(more + "target x>=40;"), 0);
        e.due("a state less is no target", solve(more + "max x=40->1:(x'=41);target x>=41;"), 5);
        e.due("511 states of value 0", solve("var x:0..511;max x<511->1:(x'=x+1);target false;"), 0);
    }

    /** The least k with 2^k not below twice the multiple. */
    private static int weight(int multiple) {
        int k = 0;
        while ((1L << k) < 2L * multiple) {
            k++;
        }
        return k;
    }

    /** A row in which one state has a multiple, and all weigh so much together. */
    private static int[] weighing(int multiple, int all) {
        int left = all - weight(multiple);
        int large = Math.min(left / 31, 14);
        left -= 31 * large;
        int rest = left == 0 ? 0 : 1 + (left - 1) / 30;
        int[] row = new int[1 + large + rest];
        row[0] = multiple;
        for (int i = 0; i < large; i++) {
            row[1 + i] = LARGE;
        }
        for (int i = 0; i < rest; i++) {
            int part = left / rest + (i < left % rest ? 1 : 0);
            row[1 + large + i] = 1 << (part - 1);
        }
        return row;
    }

    private void eachWeight() {
        e.says("6: or their WEIGHTS together are above 480 (6 LARGE): the least k with 2^k not below twice the multiple");
        for (int k = 1; k <= 31; k++) {
            int least = k == 1 ? 1 : k == 2 ? 2 : (1 << (k - 2)) + 1;
            int most = k == 31 ? 999999999 : 1 << (k - 1);
            for (int multiple : new int[] {least, most}) {
                e.due("weight of " + multiple, weight(multiple), k);
                e.due("480 with " + multiple, solve(row(weighing(multiple, 480))), 0);
                e.due("481 with " + multiple, solve(row(weighing(multiple, 481))), 6);
            }
        }
        e.due("40 * 12", solve(row(same(40, 2048))), 0);
        int[] one = same(40, 2048);
        one[39] = 2049;
        e.due("39 * 12 + 13", solve(row(one)), 6);
        e.due("15 * 31", solve(row(same(15, 999999999))), 0);
        e.due("16 * 31", solve(row(same(16, 999999999))), 6);
        e.due("16 * 30", solve(row(same(16, 1 << 29))), 0);
        e.due("40 * 31", solve(row(same(40, 999999999))), 6);
    }

    private void whatWeighs() {
        e.says("6: the greatest of its commands' least common multiples");
        String row = row(same(40, 2048));
        e.due("one more command", solve(row + "max x=7->1:stay;"), 0);
        e.due("as great", solve(row + "max x=7->1/2048:stay+2047/2048:(x'=100);"), 0);
        e.due("a greater one behind", solve(row + "max x=7->1/2049:stay+2048/2049:(x'=100);"), 6);
        e.due("a greater one in front", solve("var x:0..100;max x=7->1/2049:stay+2048/2049:(x'=100);" + row.substring("var x:0..100;".length())), 6);
        e.due("a greater one of min's", solve((row + "max x=7->1/2049:(x'=40)+2048/2049:(x'=8);").replace("max", "min")), 6);
        e.says("6: (part 4): of what a command's chances have below");
        String last = row(same(39, 2048)).replace("target x=39;", "target x=40;");
        e.due("in least terms", solve(last + "max x=39->2/4096:(x'=40)+4094/4096:(x'=100);"), 0);
        e.due("the multiple of two", solve(last + "max x=39->1/32:(x'=40)+1/64:(x'=0)+61/64:(x'=100);"), 0);
        e.due("the multiple of two", solve(last + "max x=39->1/3:(x'=40)+1/683:(x'=0)+2/3-1/683:(x'=100);"), 6);
        e.due("1/3 and 1/682 have 2046", solve(last + "max x=39->1/3:(x'=40)+1/682:(x'=0)+2/3-1/682:(x'=100);"), 0);
        e.due("joined branches have each", solve(last + "max x=39->1/4096:(x'=40)+4095/4096:(x'=40);"), 6);
        e.due("joined branches have each", solve(last + "max x=39->1/2048:(x'=40)+2047/2048:(x'=40);"), 0);
        e.due("a chance of 0 has 1", solve(last + "max x=39->0/4096:(x'=0)+1:(x'=40);"), 0);
        e.says("6: their WEIGHTS: those of the unknown ones");
        e.due("a state of value 0 has none", solve(row + "max x=100->1/999999937:stay+999999936/999999937:stay;"), 0);
    }

    private void manyBeforeLarge() {
        e.says("6: more than 40 (5 MANY), or their WEIGHTS together are above 480 (6 LARGE)");
        e.due("both", solve(row(same(41, 2049))), 5);
        e.due("one", solve(row(same(40, 2049))), 6);
    }

    private void asManyAsThereMayBe() {
        e.says("4: 512 states, 4096 branches");
        String states = "var x:0..511;max x<511->1:(x'=x+1);";
        ChanceArena commands = Edges.explored(states + Edges.times("max true->1:stay;", 7) + "max x=511->1:stay;target false;");
        e.due("4096 commands", commands.solve() + " " + commands.check() + " " + commands.judge(1) + " " + commands.judge(2) + " " + commands.within(32), "0 1 0 0 0");
        e.due("the last state", commands.commands(511) + " " + Harness.printed(commands, 511, 0) + " " + commands.choice(511) + " " + commands.rank(511) + " "
            + Edges.choose(commands, 511, 7) + " " + commands.next(511, 0) + " " + Edges.adopt(commands), "8 0 0 -1 done 511 done");
        StringBuilder eight = new StringBuilder("var x:0..511;min true->");
        for (int i = 0; i < 8; i++) {
            eight.append(i == 0 ? "" : "+").append("1/8:(x'=(x+").append(i).append(")%512)");
        }
        ChanceArena full = Edges.explored(eight + ";target false;");
        e.due("4096 branches", full.states() + " " + full.solve() + " " + full.check() + " " + full.judge(1) + " " + full.within(32) + " " + full.branch(511, 0, 7, 0)
            + " " + full.next(511, Integer.MAX_VALUE), "512 0 1 0 0 6 6");
        ChanceArena last = Edges.explored(eight + ";target x=511;");
        e.due("too many unknown ones", last.solve() + " " + last.judge(1) + " " + last.judge(2), "5 5 5");
        e.due("one move", last.within(1) + " " + last.billionths(510, 1) + " " + last.billionths(504, 1) + " " + last.billionths(503, 1), "0 125000000 125000000 0");
        e.due("as many moves as there may be", last.within(32) + " " + Harness.printed(last, 511 - 7 * 32, 1) + " " + Harness.printed(last, 510 - 7 * 32, 1),
            "0 1/" + BigInteger.ONE.shiftLeft(3 * 32) + " 0");
    }

    private void ranks() {
        e.says("6: RANKS: targets have 0; unknown states a round's number");
        e.due("a row", Edges.ranks(Edges.solved(row(1, 1, 1))), "3 2 1 0");
        e.due("a target", Edges.ranks(Edges.solved("target true;")), "0");
        e.due("none", Edges.ranks(Edges.solved("var x:0..1;max true->1:stay;target x=1;")), "-1");
        e.due("an end", Edges.ranks(Edges.solved("var x:0..2;max x=0->1/2:(x'=1)+1/2:(x'=2);target x=1;")), "1 0 -1");
        e.says("6: to a state with a rank below r");
        e.due("not in the same round", Edges.ranks(Edges.solved("var x:0..3;max x=0->1/2:(x'=1)+1/2:(x'=2);max x=1->1:(x'=3);max x=2->1:(x'=1);"
            + "target x=3;")), "2 1 2 0");
        e.due("forty rounds", Edges.solved(row(same(40, 2))).rank(0), 40);
        e.says("6: MAX'S: one of its commands that attain its value has a branch to a lower one");
        e.due("another command does not count", Edges.ranks(Edges.solved(
            "var x:0..4;max x=0->1/2:(x'=3)+1/2:(x'=4);max x=0->1:(x'=1);max x=1->1:(x'=2);max x=2->1:(x'=3);target x=3;")), "3 0 -1 2 1");
        e.due("one is enough", Edges.ranks(Edges.solved(
            "var x:0..4;max x=0->1:(x'=1);max x=0->1:(x'=3);max x=1->1:(x'=2);max x=2->1:(x'=3);target x=3;")), "1 2 0 1");
        e.says("6: or MIN'S and each of these has one");
        e.due("each", Edges.ranks(Edges.solved(
            "var x:0..4;min x=0->1:(x'=3);min x=0->1:(x'=1);min x=1->1:(x'=2);min x=2->1:(x'=3);target x=3;")), "3 0 2 1");
        e.due("of these only", Edges.ranks(Edges.solved("var x:0..5;min x=0->1/2:(x'=3)+1/2:(x'=4);min x=0->1:(x'=1);min x=1->1:(x'=2);"
            + "min x=2->1:(x'=3);target x=3;")), "1 0 -1 2 1");
        e.says("6: (All unknown ones get one.)");
        ChanceArena wait = Edges.solved("var x:0..3;max x=0->1:stay;max x=0->1:(x'=1);max x=1->1:(x'=0);max x=1->1/2:(x'=2)+1/2:(x'=3);target x=2;");
        e.due("though waiting attains", Edges.ranks(wait) + ", " + Edges.fractions(wait, 0), "2 1 0 -1, 1/2 1/2 1 0");
    }

    private void choices() {
        e.says("6: THE CHOICE of a MIN'S state: the first command that attains its value");
        String min = "var x:0..4;min x=0->1:(x'=1);min x=0->1/2:(x'=1)+1/2:(x'=2);min x=0->1/2:(x'=2)+1/2:(x'=1);target x=1;";
        e.due("the first", Edges.choices(Edges.solved(min)), "1 -1 -1");
        e.due("of value 0", Edges.choices(Edges.solved("var x:0..2;min x=0->1:(x'=1);min x=0->1:stay;min x=0->1:(x'=2);target x=1;")), "1 -1 -1");
        e.due("the first of all", Edges.choices(Edges.solved("var x:0..2;min x=0->1:(x'=1);min x=0->1:(x'=1);target x=1;")), "0 -1");
        e.says("6: Of a MAX'S state that is unknown: the first one that attains it and has a branch to a state of lower rank");
        e.due("attains, but waits", Edges.choices(Edges.solved("var x:0..2;max x=0->1:stay;max x=0->1:(x'=1);max x=0->1:(x'=1);target x=1;")), "1 -1");
        e.due("leads to lower rank, but does not attain", Edges.choices(Edges.solved(
            "var x:0..2;max x=0->1/2:(x'=1)+1/2:(x'=2);max x=0->1:(x'=1);target x=1;")), "1 -1 -1");
        e.due("the first of two", Edges.choices(Edges.solved("var x:0..2;max x=0->1:(x'=1);max x=0->1/2:stay+1/2:(x'=1);target x=1;")), "0 -1");
        e.due("the first of two", Edges.choices(Edges.solved("var x:0..2;max x=0->1/2:stay+1/2:(x'=1);max x=0->1:(x'=1);target x=1;")), "0 -1");
        e.due("equal rank is not lower", Edges.choices(Edges.solved(
            "var x:0..3;max x=0->1/2:(x'=1)+1/2:(x'=2);max x=1->1:(x'=2);max x=1->1:(x'=3);max x=2->1:(x'=3);target x=3;")), "0 1 0 -1");
        e.due("any lower rank", Edges.choices(Edges.solved(
            "var x:0..3;max x=0->1/2:(x'=1)+1/2:(x'=3);max x=0->1:(x'=3);max x=1->1:(x'=3);target x=3;")), "0 0 -1");
        e.says("6: otherwise its first command");
        e.due("of value 0", Edges.choices(Edges.solved("var x:0..3;max x=0->1:stay;max x=0->1:(x'=1);target x=3;")), "0 -1");
        e.due("of value 0", Edges.choices(Edges.solved("var x:0..3;max x=0->1:(x'=1);max x=0->1:stay;target x=3;")), "0 -1");
    }

    private void within() {
        e.says("6: WITHIN n: for n = 0: 1 for targets, 0 for others");
        String row = row(2, 1, 4);
        e.due("0", Edges.explored(row).within(0), 0);
        String[] want = {"0 0 0 0 1", "0 0 0 1/4 1", "0 1/4 0 1/4 1", "1/8 1/4 0 1/4 1", "1/8 1/4 0 1/4 1"};
        for (int n = 0; n < want.length; n++) {
            ChanceArena arena = Edges.explored(row);
            e.due("within(" + n + ")", arena.within(n) + " " + Edges.fractions(arena, 1), "0 " + want[n]);
        }
        e.says("6: else of the WITHINs n - 1 as values are of values");
        String game = "var x:0..3;max x=0->1:stay;max x=0->1/2:(x'=0)+1/2:(x'=1);min x=1->1:(x'=2);min x=1->1/3:(x'=2)+2/3:(x'=3);target x=2;";
        String[] due = {"0 0 1 0", "0 1/3 1 0", "1/6 1/3 1 0", "1/4 1/3 1 0", "7/24 1/3 1 0"};
        for (int n = 0; n < due.length; n++) {
            ChanceArena arena = Edges.explored(game);
            arena.within(n);
            e.due("within(" + n + ")", Edges.fractions(arena, 1), due[n]);
        }
        e.says("6: in at most n moves");
        ChanceArena long32 = Edges.explored(row(same(32, 1)));
        e.due("31 of 32", long32.within(31) + " " + long32.billionths(0, 1) + " " + long32.billionths(1, 1), "0 0 1000000000");
        e.due("32 of 32", long32.within(32) + " " + long32.billionths(0, 1), "0 1000000000");
        ChanceArena long33 = Edges.explored(row(same(33, 1)));
        e.due("32 of 33", long33.within(32) + " " + long33.billionths(0, 1) + " " + long33.billionths(1, 1), "0 0 1000000000");
        e.due("fewer again", long33.within(1) + " " + long33.billionths(1, 1) + " " + long33.billionths(32, 1), "0 0 1000000000");
        e.says("6: many states are no refusal of WITHIN");
        e.due("512 states", Edges.explored("var x:0..511;max x<511->1:(x'=x+1);target x=511;").within(32), 0);
    }

    private void withinBits() {
        e.says("6: It is refused (6), if one would have more than 480 bits");
        int[] bits = same(32, 1 << 15);
        bits[31] = 1 << 14;
        ChanceArena fits = Edges.explored(row(bits));
        e.due("2^479 has 480 bits", fits.within(32) + " " + Harness.printed(fits, 0, 1), "0 1/" + BigInteger.ONE.shiftLeft(479));
        ChanceArena large = Edges.explored(row(same(32, 1 << 15)));
        e.due("2^480 has 481 bits", large.within(32) + " " + Harness.printed(large, 0, 1), "6 none");
        e.due("2^465 has 466 bits", large.within(31) + " " + Harness.printed(large, 1, 1), "0 1/" + BigInteger.ONE.shiftLeft(465));
        ChanceArena above = Edges.explored(row(same(32, (1 << 15) - 1)));
        e.due("(2^15 - 1)^32 has 480 bits", above.within(32) + " " + Harness.printed(above, 0, 1),
            "0 1/" + BigInteger.valueOf(32767).pow(32));
        ChanceArena few = Edges.explored(row(same(16, 1 << 29)));
        e.due("2^464", few.within(16) + " " + few.billionths(0, 1), "0 0");
        e.due("as many moves as there are", few.within(32) + " " + Harness.printed(few, 0, 1), "0 1/" + BigInteger.ONE.shiftLeft(464));
        e.due("2^493", Edges.explored(row(same(17, 1 << 29))).within(17), 6);
        e.due("2^493, a move less", Edges.explored(row(same(17, 1 << 29))).within(16), 0);
        e.says("6: in any state");
        String other = "var y:0..1;" + row(same(32, 1 << 15)).replace("max x=", "max y=1&x=").replace("target x=32", "target x=32&y=1")
            + "max y=0->1:stay;max y=0->1:(y'=1);";
        ChanceArena second = Edges.explored(other);
        e.due("of state 1 alone", second.within(32) + " " + Harness.printed(second, 0, 1) + " " + Harness.printed(second, 1, 1), "6 none none");
        e.due("a move less", second.within(31) + " " + Harness.printed(second, 0, 1), "0 0");
        e.says("6: for any number of moves up to n");
        // The longer max may move, the nearer its number is to 1; at last it is 1.
        String way = "var x:0..99;max x<30->1/32768:(x'=98)+32767/32768:(x'=x+1);max x=98->1:(x'=99);max x=30->1:(x'=98);target x=99;";
        ChanceArena late = Edges.explored(way.replace("30", "20"));
        e.due("1 at last", late.within(32) + " " + Harness.printed(late, 0, 1), "0 1");
        ChanceArena steep = Edges.explored(way.replace("30", "20").replace("32768", "16777216").replace("32767", "16777215"));
        e.due("2^480 on the way, 1 at last", steep.within(32) + " " + Harness.printed(steep, 0, 1), "6 none");
        e.due("2^456 on the way", steep.within(20), 0);
        e.due("2^480 on the way", steep.within(21), 6);
    }

    private void withinLeastTerms() {
        e.says("6: in least terms");
        String both = "var x:0..32;var y:0..1;max x<31->1/999999937:(x'=x+1)&(y'=0)+999999936/999999937:(x'=x+1)&(y'=1);"
            + "max x=31->1/3:(x'=32)+2/3:(x'=31);target x=32;";
        ChanceArena arena = Edges.explored(both);
        e.due("both ways are worth 1/3", arena.within(32) + " " + Harness.printed(arena, 0, 1) + " " + Harness.printed(arena, 1, 1), "0 1/3 5/9");
        ChanceArena joined = Edges.explored("var x:0..32;max x<32->1/999999937:(x'=x+1)+999999936/999999937:(x'=x+1);target x=32;");
        e.due("joined branches", joined.within(32) + " " + Harness.printed(joined, 0, 1), "0 1");
        ChanceArena half = Edges.explored("var x:0..99;max x<31->2/32768:(x'=x+1)+32766/32768:(x'=99);max x=31->1/2:(x'=32)+1/2:(x'=99);target x=32;");
        e.due("2^434 + 1 bits", half.within(32) + " " + Harness.printed(half, 0, 1), "0 1/" + BigInteger.ONE.shiftLeft(14 * 31 + 1));
    }

    private void judged() {
        e.says("6: JUDGED: if one player keeps to them, the other one's best against them");
        String game = "var x:0..4;max x=0->1:(x'=1);max x=0->1/4:(x'=3)+3/4:(x'=4);min x=1->1/2:(x'=3)+1/2:(x'=4);"
            + "min x=1->1/3:(x'=3)+2/3:(x'=4);min x=1->1:(x'=0);target x=3;";
        ChanceArena arena = Edges.explored(game);
        e.due("max's first commands", arena.judge(1) + " " + Edges.fractions(arena, 2), "0 0 0 1 0");
        e.due("min's first commands", arena.judge(2) + " " + Edges.fractions(arena, 2), "0 1/2 1/2 1 0");
        arena.choose(0, 1);
        e.due("max's second one", arena.judge(1) + " " + Edges.fractions(arena, 2), "0 1/4 1/4 1 0");
        e.due("min's are not max's", arena.judge(2) + " " + Edges.fractions(arena, 2), "0 1/2 1/2 1 0");
        arena.choose(1, 1);
        e.due("min's second one", arena.judge(2) + " " + Edges.fractions(arena, 2), "0 1/3 1/3 1 0");
        arena.choose(1, 2);
        e.due("min's third one", arena.judge(2) + " " + Edges.fractions(arena, 2), "0 1/4 1/4 1 0");
        e.says("6: each state of that player's has that command alone");
        ChanceArena wait = Edges.explored("var x:0..1;max x=0->1:stay;max x=0->1:(x'=1);target x=1;");
        e.due("max waits", wait.judge(1) + " " + Edges.fractions(wait, 2), "0 0 1");
        e.due("max does not", wait.judge(2) + " " + Edges.fractions(wait, 2), "0 1 1");
        ChanceArena go = Edges.explored("var x:0..1;min x=0->1:(x'=1);min x=0->1:stay;target x=1;");
        e.due("min goes", go.judge(2) + " " + Edges.fractions(go, 2), "0 1 1");
        e.due("min does not", go.judge(1) + " " + Edges.fractions(go, 2), "0 0 1");
        e.due("no choices at all", Edges.explored("target true;").judge(1), 0);
    }

    private void judgedRefusals() {
        e.says("6: (The same refusals, weights and unknown ones by what is left.)");
        ChanceArena forty = Edges.explored(row(same(40, 2048)));
        e.due("forty, 480", forty.judge(1) + " " + forty.judge(2), "0 0");
        ChanceArena more = Edges.explored(row(same(41, 1)));
        e.due("forty-one", more.judge(1) + " " + more.judge(2), "5 5");
        int[] heavy = same(40, 2048);
        heavy[39] = 2049;
        ChanceArena weighs = Edges.explored(row(heavy));
        e.due("481", weighs.judge(1) + " " + weighs.judge(2), "6 6");
        ChanceArena both = Edges.explored(row(same(41, 2049)));
        e.due("both", both.judge(1) + " " + both.judge(2), "5 5");
        e.says("6: weights by what is left");
        String second = row(same(40, 2048)) + "max x=7->1/2049:(x'=8)+2048/2049:(x'=100);";
        ChanceArena left = Edges.explored(second);
        e.due("the second one is not left", left.solve() + " " + left.judge(1) + " " + left.judge(2), "6 0 6");
        left.choose(at(left, 7), 1);
        e.due("the first one is not left", left.judge(1) + " " + left.judge(2), "6 6");
        ChanceArena min = Edges.explored(second.replace("max", "min"));
        e.due("the second one of min's", min.solve() + " " + min.judge(2) + " " + min.judge(1), "6 0 6");
        e.says("6: unknown ones by what is left");
        String wait = "var x:0..41;max x<41->1:(x'=x+1);max x=0->1:stay;target x=41;";
        ChanceArena fewer = Edges.explored(wait);
        e.due("forty-one are left", fewer.judge(1) + " " + fewer.judge(2), "5 5");
        fewer.choose(0, 1);
        e.due("forty are left", fewer.judge(1) + " " + fewer.judge(2), "0 5");
        e.due("what is judged", Harness.printed(fewer, 0, 2), "none");
        fewer.judge(1);
        e.due("what is judged", Harness.printed(fewer, 0, 2) + " " + Harness.printed(fewer, 1, 2), "0 1");
        ChanceArena mins = Edges.explored(wait.replace("max x=0", "min x=0").replace("max x<41", "min x<41"));
        e.due("min can wait", mins.solve() + " " + mins.judge(1) + " " + mins.judge(2), "0 0 5");
    }
}
