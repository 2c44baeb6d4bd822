import java.util.Random;
import java.util.Set;

/** Calls in any order with any arguments: nothing is thrown but what the document says. */
public final class MonkeyTest {
    private static final String[] TEXTS = {
        "var x:0..3; max x=0->1:(x'=1); max x=0->3/10:(x'=3)+7/10:(x'=2); min x=1->1:(x'=0); min x=1->6/10:(x'=3)+4/10:(x'=2); target x=3;",
        "var x:0..41; max x<41->1/2:(x'=x+1)+1/2:(x'=0); target x=41;",
        "var x:0..9;var b:bool;min b->1:stay;max !b->1/3:(b'=x>3)+2/3:(x'=(x+1)%10);target x=9&b;",
        "var x:0..3;max true->1:(x'=x+1);target false;",
        "target 1;",
        "target true;",
        "var x:0..20;max x<20->1/999999937:(x'=x+1)+999999936/999999937:(x'=0);target x=20;",
        "var x:0..600;max true->1:(x'=least(x+1,600));target x=600;",
    };
    private static final int[] ODD = {Integer.MIN_VALUE, -2, -1, 0, 0, 0, 1, 1, 1, 2, 2, 3, 4, 20, 21, 32, 33, 40, 511, 512, 1 << 30, Integer.MAX_VALUE};

    public static void main(String[] args) {
        Harness harness = new Harness();
        for (long seed = 0; seed < 3000 && harness.clean(); seed++) {
            Random random = new Random(seed);
            ChanceArena arena = new ChanceArena();
            for (int call = 0; call < 300; call++) {
                step(harness, arena, random, seed);
            }
        }
        harness.finish();
    }

    private static int odd(Random random) {
        return random.nextInt(20) == 0 ? random.nextInt() : ODD[random.nextInt(ODD.length)];
    }

    private static void step(Harness harness, ChanceArena arena, Random random, long seed) {
        int a = odd(random);
        int b = odd(random);
        int c = odd(random);
        int d = odd(random);
        int which = random.nextInt(30);
        Set<String> allowed = which == 1 ? Set.of("IllegalArgumentException")
            : which == 5 || which == 14 || which == 17 ? Set.of("IllegalStateException")
            : which == 8 || which == 16 ? Set.of("IndexOutOfBoundsException")
            : which == 15 || which == 18 ? Set.of("IllegalArgumentException", "IllegalStateException") : Set.of();
        String got = "";
        try {
            call(arena, which, a, b, c, d, random);
        } catch (RuntimeException e) {
            got = e.getClass().getSimpleName();
        }
        harness.due("seed " + seed + " call " + which + "(" + a + ", " + b + ", " + c + ", " + d + ") throws " + got,
            got.isEmpty() || allowed.contains(got), true);
    }

    private static int call(ChanceArena arena, int which, int a, int b, int c, int d, Random random) {
        switch (which) {
            case 0: return arena.feed(a, b, c, d, a);
            case 1: return arena.end(a);
            case 2: return arena.compile();
            case 3: return arena.place();
            case 4: return arena.items(a);
            case 5: return arena.explore();
            case 6: return arena.state();
            case 7: return arena.states();
            case 8: return arena.variable(a, b);
            case 9: return arena.kind(a);
            case 10: return arena.commands(a);
            case 11: return arena.command(a, b);
            case 12: return arena.branches(a, b);
            case 13: return arena.branch(a, b, c, d);
            case 14: return arena.solve();
            case 15: return arena.within(a);
            case 16:
                arena.choose(a, b);
                return 0;
            case 17:
                arena.adopt();
                return 0;
            case 18: return arena.judge(a);
            case 19: return arena.print(a, b);
            case 20: return arena.character(a);
            case 21: return arena.compare(a, b, c, d);
            case 22: return arena.billionths(a, b);
            case 23: return arena.choice(a);
            case 24: return arena.rank(a);
            case 25: return arena.next(a, b);
            case 26: return arena.check();
            default:
                Harness.compile(arena, random.nextInt(5) == 0 ? "" : TEXTS[random.nextInt(TEXTS.length)]);
                return 0;
        }
    }
}
