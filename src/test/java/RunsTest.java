import java.util.Random;

/**
 * Runs of up to 512 calls in any order on one object, each answer held against the keeper's.
 * Arguments: first seed, how many runs.
 */
public final class RunsTest {
    private static final int CALLS = 512;
    private static final String[] TEXTS = {
        "",
        "target true;",
        "target 1;",
        "target 1/0=1;",
        "var x:0..3;max true->1:(x'=x+1);target false;",
        "const c=2;formula f=x+c;var y:bool;",
        "var x:0..3; max x=0->1:(x'=1); max x=0->3/10:(x'=3)+7/10:(x'=2); min x=1->1:(x'=0); min x=1->6/10:(x'=3)+4/10:(x'=2); target x=3;",
        "const c=3;var x:0..4;var b:bool init true;formula f=x<c;max f&b->1/2:(x'=x+1)+1/2:(b'=false);max f&b->1:(x'=x+1);min !b->1/c:(b'=true)+2/c:(x'=0);min !b->1:stay;target x=c;",
        "var x:0..2;min x=0->1/3:(x'=1)+2/3:stay;min x=0->1/7:(x'=1)+6/7:(x'=2);max x=2->1:stay;max x=2->1/9:(x'=0)+8/9:stay;target x=1;",
        "var x:0..41;max x<41->1/2:(x'=x+1)+1/2:(x'=0);target x=41;",
        "var x:0..17;max x<17->1/999999937:(x'=x+1)+999999936/999999937:(x'=0);max x<17->1:(x'=17);target x=17;",
        "var x:0..42;max x=0->1:(x'=42);max x<42->1/3:(x'=least(x+1,42))+2/3:(x'=0);target x=42;",
        "var x:0..600;max true->1:(x'=least(x+1,600));target x=600;",
        "var x:0..9;var b:bool;min b->1:stay;max !b->1/3:(b'=x>3)+2/3:(x'=(x+1)%10);target x=9&b;",
    };
    private static final int[] ODD = {Integer.MIN_VALUE, -2, -1, 33, 40, 511, 512, 1 << 30, Integer.MAX_VALUE};

    private final Harness harness;
    private final Random random;
    private final ChanceArena arena = new ChanceArena();
    private final Keeper keeper = new Keeper();
    private final StringBuilder run = new StringBuilder();
    private int calls;

    private RunsTest(Harness harness, long seed) {
        this.harness = harness;
        random = new Random(seed);
        run.append("seed ").append(seed).append(":");
    }

    public static void main(String[] args) {
        long first = args.length > 0 ? Long.parseLong(args[0]) : 1;
        int count = args.length > 1 ? Integer.parseInt(args[1]) : 400;
        Harness harness = new Harness();
        for (long seed = first; seed < first + count && harness.clean(); seed++) {
            RunsTest test = new RunsTest(harness, seed);
            while (test.calls < CALLS && harness.clean()) {
                test.step();
            }
        }
        harness.finish();
    }

    private void due(String call, Harness.Call ours, Harness.Call theirs) {
        calls++;
        run.append(" ").append(call);
        harness.due(run.toString(), Harness.answer(ours), Harness.answer(theirs));
    }

    /** Mostly a small number; at times one that is far off. */
    private int number(int bound) {
        return random.nextInt(12) == 0 ? ODD[random.nextInt(ODD.length)] : random.nextInt(Math.max(bound, 1) + 1);
    }

    private int stateNumber() {
        return number(Math.min(keeper.states(), random.nextInt(3) == 0 ? 50 : 3));
    }

    private void feedText(String text) {
        for (int i = 0; i < text.length(); i += 20) {
            int[] five = new int[5];
            for (int j = 0; j < 20; j++) {
                char c = i + j < text.length() ? text.charAt(i + j) : (char) random.nextInt(256);
                five[j / 4] = five[j / 4] << 8 | c;
            }
            feed(five);
        }
        int rest = text.length() % 20;
        if (rest != 0) {
            due("end(" + rest + ")", () -> arena.end(rest), () -> keeper.end(rest));
        }
    }

    private void feed(int[] five) {
        due("feed", () -> arena.feed(five[0], five[1], five[2], five[3], five[4]), () -> keeper.feed(five));
    }

    private void step() {
        int which = random.nextInt(100);
        if (which < 3) {
            feedText(random.nextInt(3) == 0 ? FuzzTest.text(random.nextLong()) : TEXTS[random.nextInt(TEXTS.length)]);
            due("compile()", () -> arena.compile(), () -> keeper.compile());
            if (random.nextInt(3) > 0) {
                due("explore()", () -> arena.explore(), () -> keeper.explore());
            }
        } else if (which < 5) {
            due("explore()", () -> arena.explore(), () -> keeper.explore());
        } else if (which < 12) {
            due("solve()", () -> arena.solve(), () -> keeper.solve());
        } else if (which < 40) {
            change(which - 12);
        } else if (which < 70) {
            askStates(which % 10);
        } else {
            askFractions(which % 10);
        }
    }

    private void change(int which) {
        int n = number(32);
        int k = stateNumber();
        int i = number(2);
        if (which < 1 && i == 0) {
            int[] five = {random.nextInt(), n, i, k, 0x74617267};
            feed(five);
        } else if (which < 2 && i == 0) {
            due("end(" + n + ")", () -> arena.end(n), () -> keeper.end(n));
        } else if (which < 3 && i == 0) {
            due("compile()", () -> arena.compile(), () -> keeper.compile());
        } else if (which < 6) {
            due("within(" + n + ")", () -> arena.within(n), () -> keeper.within(n));
        } else if (which < 14) {
            due("choose(" + k + "," + i + ")", () -> {
                arena.choose(k, i);
                return 0;
            }, () -> keeper.choose(k, i));
        } else if (which < 16) {
            due("adopt()", () -> {
                arena.adopt();
                return 0;
            }, () -> keeper.adopt());
        } else if (which < 20) {
            int player = random.nextInt(4) == 0 ? i : 1 + random.nextInt(2);
            due("judge(" + player + ")", () -> arena.judge(player), () -> keeper.judge(player));
        } else {
            due("print(" + k + "," + i + ")", () -> arena.print(k, i), () -> keeper.print(k, i));
        }
    }

    private void askStates(int which) {
        int k = stateNumber();
        int i = number(3);
        int j = number(2);
        int what = number(3);
        switch (which) {
            case 0:
                due("place()", () -> arena.place(), () -> keeper.place());
                break;
            case 1:
                due("items(" + i + ")", () -> arena.items(i), () -> keeper.items(i));
                break;
            case 2:
                due("state()", () -> arena.state(), () -> keeper.state());
                break;
            case 3:
                due("states()", () -> arena.states(), () -> keeper.states());
                break;
            case 4:
                due("variable(" + k + "," + i + ")", () -> arena.variable(k, i), () -> keeper.variable(k, i));
                break;
            case 5:
                due("kind(" + k + ")", () -> arena.kind(k), () -> keeper.kind(k));
                break;
            case 6:
                due("commands(" + k + ")", () -> arena.commands(k), () -> keeper.commands(k));
                break;
            case 7:
                due("command(" + k + "," + i + ")", () -> arena.command(k, i), () -> keeper.command(k, i));
                break;
            case 8:
                due("branches(" + k + "," + i + ")", () -> arena.branches(k, i), () -> keeper.branches(k, i));
                break;
            default:
                due("branch(" + k + "," + i + "," + j + "," + what + ")", () -> arena.branch(k, i, j, what),
                    () -> keeper.branch(k, i, j, what));
                break;
        }
    }

    private void askFractions(int which) {
        int k = stateNumber();
        int other = stateNumber();
        int what = number(3);
        int with = number(2);
        int r = random.nextInt();
        switch (which) {
            case 0:
            case 1:
                due("character(" + other + ")", () -> arena.character(other), () -> keeper.character(other));
                break;
            case 2:
                due("compare(" + k + "," + what + "," + other + "," + with + ")", () -> arena.compare(k, what, other, with),
                    () -> keeper.compare(k, what, other, with));
                break;
            case 3:
                due("billionths(" + k + "," + what + ")", () -> arena.billionths(k, what), () -> keeper.billionths(k, what));
                break;
            case 4:
                due("choice(" + k + ")", () -> arena.choice(k), () -> keeper.choice(k));
                break;
            case 5:
                due("rank(" + k + ")", () -> arena.rank(k), () -> keeper.rank(k));
                break;
            case 6:
            case 7:
                due("next(" + k + "," + r + ")", () -> arena.next(k, r), () -> keeper.next(k, r));
                break;
            case 8:
                due("check()", () -> arena.check(), () -> keeper.check());
                break;
            default:
                due("print(" + k + "," + what + ")", () -> arena.print(k, what), () -> keeper.print(k, what));
                break;
        }
    }
}
