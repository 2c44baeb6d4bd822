/** The edges that parts 1 and 2 of the document name: words, texts, depth. */
public final class WordsEdgesTest {
    private final Edges e = new Edges();

    private static final String[] OWN_WORDS = {"const", "var", "bool", "formula", "max", "min", "init", "stay", "target", "true",
        "false", "least", "most"};

    public static void main(String[] args) {
        WordsEdgesTest test = new WordsEdgesTest();
        test.blanks();
        test.comments();
        test.longestWords();
        test.names();
        test.ownWords();
        test.numbers();
        test.everyCharacter();
        test.items();
        test.commands();
        test.rules();
        test.grouping();
        test.levels();
        test.levelsThatAreOver();
        test.firstWordThatCannotStand();
        test.everyWordEverywhere();
        test.oneTextAfterAnother();
        test.e.finish();
    }

    private void blanks() {
        e.says("1: Blanks are 9, 10, 13, 32");
        for (int c : new int[] {9, 10, 13, 32}) {
            String blank = String.valueOf((char) c);
            e.stands("target" + blank + "true" + blank + ";" + blank);
            e.stands(blank + blank + "target" + blank + blank + "true;");
        }
        for (int c : new int[] {0, 1, 7, 8, 11, 12, 14, 28, 30, 31, 127, 128, 133, 160, 255}) {
            e.fault(1, "target@" + (char) c + "true;");
            e.fault(1, "target true;@" + (char) c);
            e.fault(1, "@" + (char) c + "target true;");
        }
        e.says("1: a blank parts two words");
        e.fault(1, "target tr @ue;");
        e.fault(1, "var x:0@. .1;target true;");
        e.fault(1, "target 1< @=2;");
        e.fault(1, "target 1@! =2;");
        e.fault(1, "max true- @>1:stay;target true;");
        e.fault(1, "const a=1 @2;target true;");
    }

    private void comments() {
        e.says("1: '#' and all up to the next 10 (or the end) are as a blank");
        e.stands("#\ntarget true;");
        e.stands("target#1 2 ; \u0000\u00ff$\n true;");
        e.stands("target#a#b#\n#\n##\ntrue;#");
        e.stands("target true;# what stands here does not count");
        e.stands("#;target 1;\r\ttarget true;\ntarget true;");
        e.fault(1, "#\n@x target true;");
        e.fault(1, "target#\r true;@");
        e.fault(1, "target #\n@;");
        e.fault(10, "#target true;\r\t @");
        e.fault(10, "#@");
        e.fault(1, "target true#;@");
        e.fault(1, "@tar#\nget true;");
    }

    private void longestWords() {
        e.says("1: WORDS are as long as can be");
        e.stands("target 1<=2&2>=1&1!=2;");
        e.stands("target 1<-1|1>-1|1=-1|1!=-1|1<=-1|1>=-1;");
        e.stands("target!!true;");
        e.fault(1, "target 1=@=1;");
        e.fault(1, "target 1=@>1;");
        e.fault(1, "target 1=@<1;");
        e.fault(1, "target 1<@>1;");
        e.fault(1, "target 1<=@=1;");
        e.fault(1, "target 1>=@=1;");
        e.fault(1, "target 1!=@=1;");
        e.fault(1, "target 1!=@!true;");
        e.fault(1, "max true-@->1:stay;target true;");
        e.fault(1, "var x:0..@.1;target true;");
        e.fault(1, "var x:0..@..1;target true;");
        e.fault(1, "var x:0@.1;target true;");
        e.stands("var x:0..1;target true;");
        e.stands("var x:-1..-0;target true;");
        e.fault(1, "@targettrue;");
        e.fault(2, "target @truetrue;");
        e.fault(1, "const a=1@_;target true;");
    }

    private void names() {
        e.says("1: a NAME: a letter (A .. Z, a .. z) and letters, digits, '_' behind it");
        for (String first : new String[] {"A", "Z", "a", "z", "M", "m"}) {
            e.stands("const " + first + "=1;target " + first + "=1;");
            for (String next : new String[] {"A", "Z", "a", "z", "0", "9", "_"}) {
                e.stands("const " + first + next + "=1;target " + first + next + "=1;");
                e.stands("const " + first + next + "q=1;target " + first + next + "q=1;");
            }
        }
        for (char c : new char[] {'_', '[', '`', '{', '^', '\\', 0xc0, 0xe9}) {
            e.fault(1, "const @" + c + "a=1;target true;");
        }
        e.fault(1, "const @0a=1;target true;");
        e.fault(1, "const @9a=1;target true;");
        for (char c : new char[] {'[', '`', '{', '^', '\\', '.', '$', '"', 0xc0, 0xe9}) {
            e.fault(1, "const a@" + c + "=1;target true;");
        }
        e.fault(1, "const a@:=1;target true;");
        e.fault(1, "const a@/=1;target true;");
        e.says("1: A is another one than a");
        e.stands("const a=1;const A=2;target a=1&A=2;");
        e.fault(2, "const a=1;target @A=1;");
        e.fault(2, "const aB=1;target @ab=1;");
        e.fault(2, "const a=1;const @a=2;target true;");
        e.says("1: of a name all characters count");
        e.stands("const ab=1;const ac=2;const a=3;const abc=4;target ab=1&ac=2&a=3&abc=4;");
        e.fault(2, "const ab=1;target @abc=1;");
        e.fault(2, "const abc=1;target @ab=1;");
        e.says("1: 40 at most (a longer one is no word)");
        String forty = Edges.times("abcdefgh_0", 4);
        e.stands("const " + forty + "=1;target " + forty + "=1;");
        e.fault(1, "const @" + forty + "a=1;target true;");
        e.fault(1, "const @" + forty + "_=1;target true;");
        e.fault(1, "const @" + forty + "0=1;target true;");
        e.fault(1, "const @" + Edges.times(forty, 5) + "=1;target true;");
        e.stands("const " + forty.substring(1) + "=1;const " + forty.substring(0, 39) + "=2;target " + forty.substring(1) + "=1;");
        String other = forty.substring(0, 39) + "1";
        e.stands("const " + forty + "=1;const " + other + "=2;target " + forty + "=1&" + other + "=2;");
    }

    private void ownWords() {
        e.says("1: These are words of their own, no names");
        for (String word : OWN_WORDS) {
            e.fault(1, "const @" + word + "=1;target true;");
            e.fault(1, "var @" + word + ":bool;target true;");
            e.fault(1, "formula @" + word + "=1;target true;");
            e.stands("const " + word + "s=1;target " + word + "s=1;");
            e.stands("const " + word + "_=1;target true;");
            e.stands("const " + word + "1=1;target true;");
            e.stands("const a" + word + "=1;target true;");
            e.stands("const " + word.toUpperCase() + "=1;target true;");
            e.stands("const " + word.substring(0, word.length() - 1) + "=1;target true;");
            String capital = word.substring(0, 1).toUpperCase() + word.substring(1);
            e.stands("const " + capital + "=1;target " + capital + "=1;");
            String last = word.substring(0, word.length() - 1) + (word.endsWith("z") ? "y" : "z");
            e.stands("const " + last + "=1;target " + last + "=1;");
        }
        e.fault(1, "@Target true;");
        e.fault(2, "target @True;");
        e.fault(1, "var x:0..1 @Init 1;target true;");
    }

    private void numbers() {
        e.says("1: a NUMBER: digits, at most 9 (more are no word)");
        e.stands("const a=999999999;target a=999999998+1;");
        e.stands("const a=000000001;target a=1;");
        e.stands("const a=000000000;target a=0;");
        e.stands("const a=123456789;target a=123456*1000+789;");
        e.stands("const a=987654321;target a=987654*1000+321;");
        e.fault(1, "const a=@1000000000;target true;");
        e.fault(1, "const a=@0000000001;target true;");
        e.fault(1, "const a=@0000000000;target true;");
        e.fault(1, "const a=@" + Edges.times("1", 300) + ";target true;");
        e.fault(1, "const a=@1234567890ab;target true;");
        e.says("1: what stands behind it without a blank is the next word: 12ab are two");
        e.fault(1, "const a=12@ab;target true;");
        e.fault(1, "const a=999999999@a;target true;");
        e.fault(1, "const a=1@true;target true;");
        e.stands("var x:0..12init 5;target x=5;");
        e.stands("var x:0..1;max x=0->1:(x'=1);target x=1;");
        e.stands("target 1=1;");
        e.fault(1, "const a=12 @1234567890;target true;");
        e.fault(1, "const a=1@.5;target true;");
    }

    /** Each of the 256 characters between two words. */
    private void everyCharacter() {
        e.says("1: the signs, and what is no word");
        String begins = "+*/%&|?:;,)'<>=";
        for (int i = 0; i < 256; i++) {
            char c = (char) i;
            if (c == Edges.MARK) {
                e.due("compile", Harness.fault(new ChanceArena(), "target@true;"), "1@6");
            } else if (c == 9 || c == 10 || c == 13 || c == 32 || c == '!') {
                e.stands("target" + c + "true;");
            } else if (c == '#') {
                e.fault(1, "target#true;@");
            } else if (c == '-') {
                e.fault(3, "target@-true;");
            } else if (c == '(') {
                e.fault(1, "target(true@;");
            } else if (c >= '0' && c <= '9' || c >= 'A' && c <= 'Z' || c >= 'a' && c <= 'z' || c == '_') {
                e.fault(1, "@target" + c + "true;");
            } else {
                e.fault(1, "target@" + c + "true;");
                e.due("a sign can stand somewhere: " + c, begins.indexOf(c) < 0 || standsSomewhere(c), true);
            }
        }
    }

    private static boolean standsSomewhere(char sign) {
        String text = "const a=(1+2*3/4)%5<6&7>8|1=1?true:false;var x:0..9;max least(1,2)=1->1:(x'=1);target true;";
        String fault = Harness.fault(new ChanceArena(), text);
        return text.indexOf(sign) >= 0 && fault.startsWith("8@");
    }

    private void items() {
        e.says("2: text = item*");
        e.fault(10, "@");
        e.fault(10, " \n @");
        e.fault(1, "@;");
        e.fault(1, "target true;@;");
        e.fault(1, "@x=1;target true;");
        e.fault(1, "@1;");
        for (String word : new String[] {"bool", "init", "stay", "true", "false", "least", "most"}) {
            e.fault(1, "@" + word + " a=1;target true;");
        }
        e.says("2: item = const NAME '=' rule ';' | formula NAME '=' rule ';'");
        for (String word : new String[] {"const", "formula"}) {
            e.fault(1, word + "@");
            e.fault(1, word + " @=1;");
            e.fault(1, word + " @1=1;");
            e.fault(1, word + " a@");
            e.fault(1, word + " a@:1;");
            e.fault(1, word + " a@;");
            e.fault(1, word + " a=@");
            e.fault(1, word + " a=@;");
            e.fault(1, word + " a=1@");
            e.fault(1, word + " a=1@:");
            e.fault(1, word + " a=1@,");
            e.fault(1, word + " a=1@)");
            e.fault(1, word + " a=1@..");
            e.fault(1, word + " a=1 @" + word);
            e.fault(10, word + " a=1;@");
        }
        e.says("2: var NAME ':' ( bool | rule '..' rule ) [ init rule ] ';'");
        e.fault(1, "var@");
        e.fault(1, "var @:bool;");
        e.fault(1, "var x@");
        e.fault(1, "var x@=0..1;");
        e.fault(1, "var x:@");
        e.fault(1, "var x:@;");
        e.fault(1, "var x:@..1;");
        e.fault(1, "var x:0@;");
        e.fault(1, "var x:0 @init 0;");
        e.fault(1, "var x:0@:1;");
        e.fault(1, "var x:0..@;");
        e.fault(1, "var x:0..1@");
        e.fault(1, "var x:0..1@..2;");
        e.fault(1, "var x:0..1 init@;");
        e.fault(1, "var x:0..1 init 0 @init 0;");
        e.fault(1, "var x:bool@..1;");
        e.fault(1, "var x:bool @true;");
        e.fault(1, "var x:bool init@;");
        e.fault(1, "var x:bool@");
        e.fault(1, "var x:0..@bool;");
        e.stands("var x:true?0:1..false?2:3;var y:bool;var z:bool init true?true:false;target y;");
        e.says("2: target rule ';'");
        e.fault(1, "target@");
        e.fault(1, "target@;");
        e.fault(1, "target true@");
        e.fault(1, "target a @target true;");
        e.stands("target true?true:false;");
    }

    private void commands() {
        e.says("2: ( max | min ) rule '->' branch ( '+' branch )* ';'");
        for (String word : new String[] {"max", "min"}) {
            e.fault(1, word + "@");
            e.fault(1, word + "@->1:stay;");
            e.fault(1, word + " true@");
            e.fault(1, word + " true@;");
            e.fault(1, word + " true@:stay;");
            e.fault(1, word + " true->@");
            e.fault(1, word + " true->@;");
            e.fault(1, word + " true->@:stay;");
            e.fault(1, word + " true->@stay;");
            e.fault(1, word + " true->1@;");
            e.fault(1, word + " true->1@->1:stay;");
            e.fault(1, word + " true->1:@");
            e.fault(1, word + " true->1:@;");
            e.fault(1, word + " true->1:stay@");
            e.fault(1, word + " true->1:stay @stay;");
            e.fault(1, word + " true->1:stay+@;");
            e.fault(1, word + " true->1:stay+1@;");
            e.fault(1, word + " true->1:stay@-1:stay;");
            e.fault(1, word + " true->1:stay@,1:stay;");
            e.stands(word + " true->1:stay+1+0*2:stay;target true;");
            e.stands(word + " true?true:false->1:stay;target true;");
        }
        e.says("2: branch = or ':' ( stay | set ( '&' set )* )");
        String vars = "var x:0..1;var y:0..1;max true->";
        e.stands(vars + "1:(x'=1)&(y'=1);target true;");
        e.stands(vars + "(true?1:0):(x'=true?1:0);target true;");
        e.fault(1, vars + "true@?1:0:stay;");
        e.fault(1, vars + "1:stay@&(x'=1);");
        e.fault(1, vars + "1:(x'=1)&@stay;");
        e.fault(1, vars + "1:(x'=1)@(y'=1);");
        e.fault(1, vars + "1:(x'=1)@|(y'=1);");
        e.fault(1, vars + "1:(x'=1)&@;");
        e.fault(1, vars + "1:(x'=1)@:stay;");
        e.fault(1, vars + "1:(x'=1)@");
        e.says("2: set = '(' NAME ''' '=' rule ')'");
        e.fault(1, vars + "1:@x'=1;");
        e.fault(1, vars + "1:(@)");
        e.fault(1, vars + "1:(@1'=1);");
        e.fault(1, vars + "1:(@(x'=1));");
        e.fault(1, vars + "1:(x@=1);");
        e.fault(1, vars + "1:(x'@1);");
        e.fault(1, vars + "1:(x'@'=1);");
        e.fault(1, vars + "1:(x'=@);");
        e.fault(1, vars + "1:(x'=1@;");
        e.fault(1, vars + "1:(x'=1@,2);");
        e.fault(1, vars + "1:(x'=1@");
        e.fault(1, "target x@'=1;");
    }

    private void rules() {
        e.says("2: rule = or [ '?' rule ':' rule ]");
        e.rule("true?1:2");
        e.rule("true?false?1:2:3");
        e.rule("true?1:false?2:3");
        e.rule("(true?true:false)?1:2");
        e.ruleFault(1, "true?1@");
        e.ruleFault(1, "true?@:1");
        e.ruleFault(1, "true?1:2@:3");
        e.ruleFault(1, "(true?1@)");
        e.ruleFault(1, "(true?1:@)");
        e.ruleFault(1, "@?1:2");
        e.ruleFault(1, "true@:1");
        e.says("2: or = and ( '|' and )* and and = not ( '&' not )*");
        e.rule("true|false&true|false");
        e.ruleFault(1, "true|@");
        e.ruleFault(1, "true&@");
        e.ruleFault(1, "@|true");
        e.ruleFault(1, "@&true");
        e.ruleFault(1, "true&@|true");
        e.ruleFault(1, "true|@&true");
        e.ruleFault(1, "true&@&true");
        e.says("2: not = '!' not | sum [ comparison sum ]");
        e.rule("!!!true");
        e.rule("!1=2&!true|!!false");
        e.ruleFault(1, "!@");
        e.ruleFault(1, "1=@!true");
        e.ruleFault(1, "1+@!true");
        e.ruleFault(1, "1*@!true");
        e.ruleFault(1, "-@!true");
        e.ruleFault(1, "true@!true");
        for (String one : new String[] {"=", "!=", "<", "<=", ">", ">="}) {
            e.rule("1" + one + "2");
            e.rule("(1" + one + "2)=(2" + one + "1)");
            e.ruleFault(1, "1" + one + "@");
            e.ruleFault(1, "@" + one + "1");
            for (String other : new String[] {"=", "!=", "<", "<=", ">", ">="}) {
                e.ruleFault(1, "1" + one + "2@" + other + "3");
                e.ruleFault(1, "!1" + one + "2+1@" + other + "3");
                e.rule("1" + one + "2&1" + other + "2|1" + one + "2?1" + other + "2:1" + one + "2");
            }
        }
        e.says("2: sum, product, sign");
        for (String sign : new String[] {"+", "*", "/", "%"}) {
            e.rule("3" + sign + "2");
            e.ruleFault(1, "3" + sign + "@");
            e.ruleFault(1, "3" + sign + "@" + sign + "2");
            e.ruleFault(1, "@" + sign + "2");
            e.ruleFault(1, "3+@" + sign + "2");
        }
        e.rule("3-2");
        e.rule("3--2");
        e.rule("3---2");
        e.rule("3*-2/-1+-4");
        e.ruleFault(1, "3-@");
        e.ruleFault(1, "-@");
        e.ruleFault(1, "-@+1");
        e.rule("(1)");
        e.rule("((true))");
        e.ruleFault(1, "(@)");
        e.ruleFault(1, "(1@");
        e.ruleFault(1, "(1@,2)");
        e.ruleFault(1, "(1 @2)");
        e.ruleFault(1, "1@(2)");
        for (String word : new String[] {"least", "most"}) {
            e.rule(word + "(1)");
            e.rule(word + "(1,2,3,4,5,6,7,8,9,10)");
            e.rule(word + "(true?1:2,true?3:4)");
            e.ruleFault(1, word + "@");
            e.ruleFault(1, word + " @1");
            e.ruleFault(1, word + "(@)");
            e.ruleFault(1, word + "(1,@)");
            e.ruleFault(1, word + "(@,1)");
            e.ruleFault(1, word + "(1@");
            e.ruleFault(1, word + "(1@:2)");
            e.ruleFault(1, word + "(1)@(2)");
            e.ruleFault(1, word + "(true?1@,2)");
        }
        e.ruleFault(1, "@bool");
        e.ruleFault(1, "@stay");
        e.ruleFault(1, "@,");
        e.ruleFault(1, "@'");
    }

    private void grouping() {
        e.says("2: Operations of one line are grouped from the left");
        e.worth("7-3-2", "2");
        e.worth("7-3+2", "6");
        e.worth("12/2/3", "2");
        e.worth("12/2*3", "18");
        e.worth("17%10%4", "3");
        e.worth("7%4*2", "6");
        e.worth("3*7%4", "1");
        e.worth("12/6%2", "0");
        e.says("2: a later line binds tighter");
        e.worth("1+2*3", "7");
        e.worth("2*3+1", "7");
        e.worth("10-6/2", "7");
        e.worth("1+7%4", "4");
        e.worth("-2*3", "0-6");
        e.worth("-2+3", "1");
        e.worth("-7%4", "1");
        e.worth("8%-(-3)", "2");
        e.worth("1+1=2", "true");
        e.worth("1=2-1", "true");
        e.worth("(!true)", "false");
        e.worth("(!false)", "true");
        e.worth("(!!true)", "true");
        e.worth("(!!false)", "false");
        e.worth("--3", "3");
        e.worth("!1=2", "true");
        e.worth("!true=false", "true");
        e.worth("!true&false", "false");
        e.worth("!false|true", "true");
        e.worth("true|true&false", "true");
        e.worth("false&true|true", "true");
        e.worth("1=1&2=2", "true");
        e.worth("true|false?1:2", "1");
        e.worth("false&true?1:2", "2");
        e.worth("false?1:2+3", "5");
        e.worth("true?1:2+3", "1");
        e.worth("(true?1:2)+3", "4");
        e.worth("false?1:false?2:3", "3");
        e.worth("true?false?1:2:3", "2");
    }

    /** What begins a level, what stands behind it at last, and where in it the word is that begins the level. */
    private void level(String before, String open, String inner, String close, int word) {
        int levels = 40;
        String text = "const a=" + before + Edges.times(open, levels) + inner + Edges.times(close, levels) + ";target true;";
        e.stands(text);
        int mark = ("const a=" + before).length() + levels * open.length() + word;
        String more = "const a=" + before + Edges.times(open, levels + 1) + inner + Edges.times(close, levels + 1) + ";target true;";
        e.fault(1, more.substring(0, mark) + Edges.MARK + more.substring(mark));
    }

    private void levels() {
        e.says("2: DEPTH: each open '(' is one level; the 41st can't stand");
        level("", "(", "1", ")", 0);
        level("", "(1+", "1", ")", 0);
        level("1+", "(", "1", ")", 0);
        e.says("2: DEPTH: that behind least and most, too");
        level("", "least(", "1", ")", 5);
        level("", "most(1,", "1", ")", 4);
        e.says("2: DEPTH: each '!'");
        level("", "!", "true", "", 0);
        level("true&", "!", "true", "", 0);
        e.says("2: DEPTH: each '-' of sign");
        level("", "-", "1", "", 0);
        level("1-", "-", "1", "", 0);
        level("1*", "-", "1", "", 0);
        e.says("2: DEPTH: each '?'");
        level("", "true?", "1", ":1", 4);
        level("", "true?1:", "1", "", 4);
        e.says("2: DEPTH: all of them together");
        // Four levels each: the '!' is over before the '?'.
        String four = "(!true?-least(1,";
        String text = Edges.times(four, 10);
        e.fault(1, "const a=" + text + "@");
        e.fault(1, "const a=" + text + "@(");
        e.fault(1, "const a=" + text + "@-");
        e.fault(1, "const a=" + text + "@!");
        e.fault(1, "const a=" + text + "least@(");
        e.fault(1, "const a=" + text + "most@(");
        e.fault(1, "const a=" + text + "true@?");
        e.stands("const a=" + text + "1" + Edges.times("):2)", 10) + ";target true;");
        e.says("2: DEPTH: that of a set");
        String set = "var x:0..1;max true->1:(x'=";
        e.stands(set + Edges.times("-", 39) + "1);target true;");
        e.fault(1, set + Edges.times("-", 39) + "@-1);target true;");
        e.stands(set + Edges.times("(", 39) + "1" + Edges.times(")", 40) + ";target true;");
        e.fault(1, set + Edges.times("(", 39) + "@(1" + Edges.times(")", 41) + ";target true;");
        e.stands(set + Edges.times("true?1:", 39) + "1);target true;");
        e.fault(1, set + Edges.times("true?1:", 39) + "true@?1:1);target true;");
        e.stands(set + "true?" + Edges.times("-", 38) + "1:1);target true;");
        e.fault(1, set + "true?" + Edges.times("-", 38) + "@-1:1);target true;");
        e.says("2: DEPTH: in all rules");
        for (String rule : new String[] {"formula f=", "var x:", "var x:0..", "var x:0..1 init ", "target ", "max ", "max true->",
                "max true->1:stay+"}) {
            e.fault(1, rule + Edges.times("(", 40) + "@(");
            e.fault(1, rule + Edges.times("(", 40) + "1" + Edges.times(")", 40) + "@)");
        }
    }

    private void levelsThatAreOver() {
        e.says("2: DEPTH: until what it belongs to is over");
        String deep = Edges.times("(", 40) + "1" + Edges.times(")", 40);
        String tooDeep = Edges.times("(", 40) + "@(1" + Edges.times(")", 41);
        String[] over = {"(1)+", "-1+", "-1*", "least(1,-2)+", "most(1)*", "-(-1)-", "(true?1:2)+", "(true?-1:-2)*", "-least(-1,-2)/",
            "(!true?1:2)+", "(!!true&!false|!true?1:2)-", "-1+-1+-1*-1-", "(1=1?-1:1)+"};
        for (String rule : over) {
            e.rule(rule + deep);
            e.ruleFault(1, rule + tooDeep);
            e.rule(deep + "+" + rule + deep);
            e.ruleFault(1, deep + "+" + rule + tooDeep);
        }
        e.rule("!true&" + Edges.times("!", 40) + "true");
        e.ruleFault(1, "!true&" + Edges.times("!", 40) + "@!true");
        e.rule("!1=2|" + Edges.times("!", 40) + "true");
        e.ruleFault(1, "!1=2|" + Edges.times("!", 40) + "@!true");
        e.rule("!true?" + Edges.times("-", 39) + "1:" + Edges.times("-", 39) + "1");
        e.ruleFault(1, "!true?" + Edges.times("-", 39) + "@-1:1");
        e.ruleFault(1, "!true?1:" + Edges.times("-", 39) + "@-1");
        e.rule(Edges.times("!", 40) + "true?1:2");
        e.rule(Edges.times("-", 40) + "1=1?1:2");
        e.rule("!" + Edges.times("-", 39) + "1=" + Edges.times("-", 39) + "1");
        e.ruleFault(1, "!" + Edges.times("-", 39) + "1=" + Edges.times("-", 39) + "@-1");
        e.ruleFault(1, "!1+" + Edges.times("-", 39) + "@-1=1");
        e.ruleFault(1, "-" + Edges.times("(", 39) + "@(1");
        e.says("2: DEPTH: a level is over with its item, branch or set");
        String branch = "1:(x'=" + Edges.times("-", 39) + "1)&(y'=" + Edges.times("-", 39) + "1)";
        e.stands("var x:0..1;var y:0..1;max true->" + branch + "+0*" + branch + "+" + deep + ":stay;max " + Edges.times("!", 40)
            + "true->1:stay;target " + Edges.times("!", 40) + "true;");
        e.stands("var x:" + deep + ".." + deep + " init " + deep + ";const c=" + deep + ";formula f=" + deep + ";target true;");
        e.stands("const a=" + Edges.times("-1+", 200) + "1;const b=" + Edges.times("(1)+", 200) + "1;const c=" + Edges.times("!true|", 200)
            + "true;const d=" + Edges.times("least(1)+", 100) + "(true?1:2)+(true?1:2);target true;");
    }

    private void firstWordThatCannotStand() {
        e.says("4: 1: the first one with which the words up to it are no beginning of a text");
        e.fault(1, "target true @$ 1234567890;");
        e.fault(1, "target true @true $;");
        e.fault(1, "target @;;;$");
        e.fault(1, "const a=1+@" + Edges.times("1", 10) + " $;");
        e.fault(1, "const a=@$");
        e.fault(1, "target true;const@");
        e.fault(1, "target true;const  \n#\n @");
        e.fault(1, "target true;const b=(1@");
    }

    private static final String BASE = "const a = - 1 + 2 * 3 ; formula f = least ( a , 4 / 2 ) ; var x : 0 .. a + 5 init 3 ; var y : bool init ! false ; "
        + "max x = 3 & y | false -> 1 / 2 : ( x ' = 4 ) & ( y ' = x < f ? true : false ) + 1 / 2 : stay ; min x >= 4 -> 1 : ( x ' = most ( 3 ) % 2 ) ; "
        + "target x != 0 ;";
    private static final String[] ALPHABET = ("const var bool formula max min init stay target true false least most .. -> != <= >= < > = + - * / % & | ! ? : ; , "
        + "( ) ' a f x y nobody 1 0 999999999 1234567890 $").split(" ");

    /** Each word at each place of a text, in place of what stands there, in front of it, and as the last one. */
    private void everyWordEverywhere() {
        e.says("4: 1: no word, or one that can't stand");
        String[] words = BASE.split(" ");
        e.due("the text itself", expected(BASE), "0@-1");
        for (int i = 0; i <= words.length; i++) {
            String before = join(words, 0, i);
            asExpected(before);
            asExpected(before + join(words, i + 1, words.length));
            for (String word : ALPHABET) {
                asExpected(before + word);
                asExpected(before + word + " " + join(words, i + 1, words.length));
                asExpected(before + word + " " + join(words, i, words.length));
            }
        }
    }

    private static String join(String[] words, int from, int to) {
        StringBuilder text = new StringBuilder();
        for (int i = from; i < to; i++) {
            text.append(words[i]).append(" ");
        }
        return text.toString();
    }

    private static String expected(String text) {
        try {
            Model.compile(text);
            return "0@-1";
        } catch (Model.Fault fault) {
            return fault.number + "@" + fault.place;
        }
    }

    private void asExpected(String text) {
        e.due("compile of " + text, Harness.fault(new ChanceArena(), text), expected(text));
    }

    /** What one text left behind does not count in the next one. */
    private void oneTextAfterAnother() {
        e.says("4: one text after another");
        String deep = "const a=" + Edges.times("(", 40) + "1" + Edges.times(")", 40) + ";target a=1;";
        String[] wrong = {"const a=" + Edges.times("(", 41), "const a=" + Edges.times("-", 20) + "(", "const a=1+2*", "const a=true?1:", "const a=least(1,",
            "const a=" + Edges.times("!", 40), "var x:0..1;max true->1:(x'=(", "const a=1=", "target true&", "const a=true+1;", "const b=1;const b=1;"};
        ChanceArena arena = new ChanceArena();
        for (String text : wrong) {
            e.due("a fault in " + text, Harness.compile(arena, text) == 0, false);
            e.due("the next text after " + text, Harness.fault(arena, deep), "0@-1");
            e.due("a truth after " + text, Harness.fault(arena, "const a=!true|1<2;target a;"), "0@-1");
        }
        int[] names = {60, 1, 0, 12, 59, 60, 0};
        for (int count : names) {
            String text = Edges.many("const c*=1;", count) + Edges.many("var v*:bool;", count % 13) + Edges.times("max true->1:stay;", count) + "target true;";
            e.due("compile", Harness.fault(arena, text), "0@-1");
            e.due("items", arena.items(0) + " " + arena.items(1) + " " + arena.items(2), count % 13 + " " + count + " " + count);
        }
        ChanceArena often = new ChanceArena();
        String long1 = "const a=" + Edges.times("1+", 100) + "1;target a=101;";
        for (int i = 0; i < 30; i++) {
            e.due("compile", Harness.fault(often, i % 2 == 0 ? long1 : "target true&false|true;"), "0@-1");
            often.explore();
            e.due("a target", often.kind(0), 3);
        }
    }
}
