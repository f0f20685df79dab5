/** Promises 12 to 17 but for the faults: ordinary inputs, the edges that the document names, wrong inputs. */
final class ProgramsTest {
    private static final int NONE = StackPrograms.NONE;
    private static final int BAD = StackPrograms.BAD;
    private static final int FULL = StackPrograms.FULL;

    private final Due due = new Due("ProgramsTest");

    public static void main(String[] args) {
        ProgramsTest test = new ProgramsTest();
        test.newObject();
        test.typing();
        test.typesAllBytes();
        test.reading();
        test.telling();
        test.statementsAndPlaces();
        test.values();
        test.branches();
        test.whatEndsAtOnce();
        test.locals();
        test.recursion();
        test.takesZeroWhereRunsPart();
        test.shorterIsBetterThanZero();
        test.traceStays();
        test.limitOfTrace();
        test.limitOfCheck();
        test.deepCalls();
        test.due.close();
    }

    private void newObject() {
        StackPrograms x = new StackPrograms();
        due.is("new: place", x.place(), NONE);
        due.is("new: check", x.check(), BAD);
        due.is("new: trace", x.trace(0, 0), NONE);
        for (int what = 0; what < 3; what++) {
            due.is("new: told", x.told(what, 0), 0);
            due.is("new: told", x.told(what, -7), 0);
        }
        for (int what = 3; what < 6; what++) {
            due.is("new: told", x.told(what, 0), BAD);
        }
        due.is("new: type", x.type(0, 1), 1);
    }

    private void typing() {
        StackPrograms x = new StackPrograms();
        for (int bad : new int[] {Integer.MIN_VALUE, -1, 0, 9, Integer.MAX_VALUE}) {
            due.is("type: bad", x.type(32, bad), BAD);
        }
        for (int i = 1; i <= 74; i++) {
            due.is("type", x.type(0x2020202020202020L, 8), 8 * i);
        }
        due.is("type: 597", x.type(0x2020202020L, 5), 597);
        due.is("type: too many", x.type(0x20202020L, 4), FULL);
        due.is("type: bad, though full", x.type(0x20202020L, 9), BAD);
        due.is("type: 600", x.type(0x202020L, 3), 600);
        due.is("type: full", x.type(32, 1), FULL);
        due.is("read: blanks alone", x.read(), -12);
        due.is("read: at the end", x.place(), 600);
        due.is("type: empty then", x.type(32, 1), 1);
        due.is("read: one blank", x.read(), -12);
        due.is("read: at the end", x.place(), 1);
        due.is("read: nothing", x.read(), -12);
        due.is("read: at the end", x.place(), 0);
    }

    private void typesAllBytes() {
        StackPrograms x = new StackPrograms();
        // The bytes above the n lowest do not count.
        due.is("type: low bytes", x.type(0xFFFFFF20636F7270L, 5), 5);
        due.is("type: one more", x.type(0x61L, 1), 6);
        due.is("type: the lowest first", x.type(0x7D7BL, 2), 8);
        due.is("read", x.read(), 0);
        due.is("told: procedures", x.told(1, 0), 1);
        for (int b = 0; b < 256; b++) {
            x = new StackPrograms();
            x.type(b, 1);
            boolean isKnown = b == 10 || b == 32 || (b >= 'a' && b <= 'z') || "01*=;,{}()!&|".indexOf(b) >= 0;
            due.is("read: byte " + b, x.read(), isKnown ? -12 : -11);
            due.is("place: byte " + b, x.place(), b == 10 || b == 32 ? 1 : 0);
        }
    }

    private void reading() {
        StackPrograms x = new StackPrograms();
        due.is("read: no statement", Due.read(x, "proc m{}"), 0);
        due.is("check: no statement", x.check(), NONE);
        due.is("trace: no statement", x.trace(0, 0), NONE);
        due.is("read: close together", Due.read(x, "var a,b,c;proc m{var d,e;a=!b&(c|d)|e;if(a){}else{}while*{}}"), 3);
        due.is("place", x.place(), NONE);
        due.is("read: lines", Due.read(x, "\n\nproc\nm\n{\nskip\n;\nreturn\n;\n}\n\n"), 2);
        due.is("read: names of 8 bytes", Due.read(x, "var abcdefgh;proc z2345678{abcdefgh=abcdefgh;}"), 1);
        due.is("read: words in names", Due.read(x, "var var0, skip1, iff;proc procx{var0=skip1&iff;}"), 1);
        due.is("read: one name for both", Due.read(x, "var m;proc m{m=m;call m;}"), 2);
        due.is("read: a local as in another procedure", Due.read(x, "proc a{var x;x=1;}proc b{var x;x=1;}"), 2);
        due.is("read: a local as a procedure", Due.read(x, "proc a{var b;b=1;call b;}proc b{}"), 2);
        due.is("read: 10 deep", Due.read(x, "proc m{assert!!!!!!!!!!1;assert((((((((((1))))))))));}"), 2);
        due.is("read: side by side", Due.read(x, "proc m{assert !1&!1&!1&!1&!1&!1&!1&!1&!1&!1&!1&!1|(1)|(1)|(1)|(1)|(1)|(1)|(1);}"), 1);
        due.is("read: 10 open", Due.read(x, "proc m{if 1{if 1{if 1{while 1{while 1{while 1{if 1{if 1{if 1{skip;}}}}}}}}}}"), 10);
        StringBuilder forty = new StringBuilder("proc m{");
        for (int i = 0; i < 40; i++) {
            forty.append("skip;");
        }
        due.is("read: 40 statements", Due.read(x, forty + "}"), 40);
        due.is("read: 6 procedures", Due.read(x, "proc a{}proc b{}proc c{}proc d{}proc e{}proc f{}"), 0);
        due.is("told: 6", x.told(1, 0), 6);
    }

    private void telling() {
        StackPrograms x = new StackPrograms();
        Due.read(x, "var a, b; proc m { skip; } proc n { }");
        due.is("told: globals", x.told(0, 0), 2);
        due.is("told: globals", x.told(0, 999), 2);
        due.is("told: procedures", x.told(1, -1), 2);
        due.is("told: statements", x.told(2, Integer.MIN_VALUE), 1);
        for (int what : new int[] {Integer.MIN_VALUE, -1, 6, Integer.MAX_VALUE}) {
            due.is("told: what", x.told(what, 0), BAD);
        }
        for (int k : new int[] {Integer.MIN_VALUE, -1, 1, 40, Integer.MAX_VALUE}) {
            for (int what = 3; what <= 5; what++) {
                due.is("told: k", x.told(what, k), BAD);
            }
        }
        for (int what : new int[] {Integer.MIN_VALUE, -1, 5, Integer.MAX_VALUE}) {
            due.is("trace: what, without a trace", x.trace(0, what), BAD);
        }
        due.is("a fault", Due.read(x, "proc"), -12);
        for (int what = 0; what <= 2; what++) {
            due.is("told: no program any more", x.told(what, 0), 0);
        }
        due.is("told: no program any more", x.told(3, 0), BAD);
        due.is("check: no program any more", x.check(), BAD);
        due.is("a late fault", Due.read(x, "var a; proc m { a = 1; assert 0; } ;"), -12);
        for (int what = 0; what <= 2; what++) {
            due.is("told: no program, though most of it was read", x.told(what, 0), 0);
        }
        for (int what = 3; what <= 5; what++) {
            due.is("told: no program, though most of it was read", x.told(what, 0), BAD);
        }
    }

    private void statementsAndPlaces() {
        StackPrograms x = new StackPrograms();
        String text = "var g;\nproc one { var l; if g { l = 1; } else { while * { call two; } } return; }\n"
            + "proc two { assert l1; }";
        due.is("places: no such variable", Due.read(x, text), -13);
        due.is("places: at it", x.place(), text.indexOf("l1"));
        String good = text.replace("l1", "g ") .replace("}\nproc", "assume 1; skip; }\nproc");
        due.is("places: read", Due.read(x, good), 8);
        due.is("places: none", x.place(), NONE);
        String[] begins = {"if g", "l = 1", "while", "call", "return", "assume", "skip", "assert"};
        int[] kinds = {1, 0, 2, 3, 6, 5, 7, 4};
        for (int k = 0; k < 8; k++) {
            due.is("places: place " + k, x.told(3, k), good.indexOf(begins[k]));
            due.is("places: procedure " + k, x.told(4, k), k == 7 ? 1 : 0);
            due.is("places: kind " + k, x.told(5, k), kinds[k]);
        }
    }

    /** Whether the expression can be 0, and can be 1: with a = 1, b = 0. */
    private void canBe(String expression, int can0, int can1) {
        StackPrograms x = new StackPrograms();
        Due.read(x, "var a, b; proc m { a = 1; assert " + expression + "; }");
        due.is("can be 0: " + expression, x.check(), can0 == 1 ? 2 : NONE);
        Due.read(x, "var a, b; proc m { a = 1; assume " + expression + "; assert 0; }");
        due.is("can be 1: " + expression, x.check(), can1 == 1 ? 3 : NONE);
    }

    private void values() {
        canBe("0", 1, 0);
        canBe("1", 0, 1);
        canBe("*", 1, 1);
        canBe("a", 0, 1);
        canBe("b", 1, 0);
        canBe("!a", 1, 0);
        canBe("!b", 0, 1);
        canBe("!*", 1, 1);
        canBe("a & b", 1, 0);
        canBe("a | b", 0, 1);
        canBe("a & *", 1, 1);
        canBe("b & *", 1, 0);
        canBe("* & b", 1, 0);
        canBe("a | *", 0, 1);
        canBe("b | *", 1, 1);
        canBe("* | a", 0, 1);
        canBe("* & !*", 1, 1);
        canBe("* | !*", 1, 1);
        canBe("a & !a", 1, 0);
        canBe("b | !b", 0, 1);
        canBe("a | b & b", 0, 1);
        canBe("(a | b) & b", 1, 0);
        canBe("b & b | a", 0, 1);
        canBe("!b & a", 0, 1);
        canBe("!(b & a)", 0, 1);
        canBe("!a | a", 0, 1);
        canBe("!!a", 0, 1);
        canBe("!(a | *)", 1, 0);
        canBe("0 | 0 | 1", 0, 1);
        canBe("1 & 1 & 0", 1, 0);
        canBe("1 | 0 & *", 0, 1);
        canBe("1 & * | 0", 1, 1);
    }

    /** A row of trace(k, ..). */
    private void step(StackPrograms x, int k, int... want) {
        for (int what = 0; what < want.length; what++) {
            due.is("trace(" + k + ", " + what + ")", x.trace(k, what), want[what]);
        }
    }

    private void branches() {
        StackPrograms x = new StackPrograms();
        Due.read(x, "var a; proc m { if a { assert 0; } else { a = 1; } if a { skip; } assert !a; }");
        due.is("branches: check", x.check(), 5);
        step(x, 0, 0, 1, 0, 0, 0);
        step(x, 1, 2, 1, 0, 0, 1);
        step(x, 2, 3, 1, 1, 0, 1);
        step(x, 3, 4, 1, 1, 0, NONE);
        step(x, 4, 5, 1, 1, 0, 0);
        step(x, 5, NONE, NONE, NONE, NONE, NONE);
        Due.read(x, "var a, b; proc m { while !a { if b { a = 1; } b = 1; } assert 0; }");
        due.is("while: check", x.check(), 9);
        int[] statements = {0, 1, 3, 0, 1, 2, 3, 0, 4};
        int[] taken = {1, 0, 1, 1, 1, 1, 1, 0, 0};
        for (int k = 0; k < 9; k++) {
            due.is("while: statement " + k, x.trace(k, 0), statements[k]);
            due.is("while: taken " + k, x.trace(k, 4), taken[k]);
        }
        due.is("while: last", x.trace(9, 0), NONE);
    }

    private void whatEndsAtOnce() {
        StackPrograms x = new StackPrograms();
        Due.read(x, "proc m { while * { } assert 0; }");
        due.is("an empty while", x.check(), 2);
        Due.read(x, "proc m { while 1 { } assert 0; }");
        due.is("an endless while", x.check(), NONE);
        due.is("an endless while", x.trace(0, 0), NONE);
        Due.read(x, "proc m { if 1 { } else { assert 0; } if 0 { assert 0; } else { } call n; assert 0; } proc n { }");
        due.is("empty parts and an empty procedure", x.check(), 4);
        step(x, 2, 4, 1, 0, 0, NONE);
        step(x, 3, 5, 1, 0, 0, 0);
        Due.read(x, "proc m { call n; assert 0; } proc n { call o; } proc o { if 1 { if 1 { skip; } } }");
        due.is("calls that end at once", x.check(), 6);
        step(x, 4, 5, 3, 0, 0, NONE);
        step(x, 5, 1, 1, 0, 0, 0);
        Due.read(x, "proc m { call n; return; assert 0; } proc n { return; }");
        due.is("the run ends", x.check(), NONE);
        Due.read(x, "proc m { assume 0; assert 0; }");
        due.is("the run stops", x.check(), NONE);
        Due.read(x, "proc m { } proc n { assert 0; }");
        due.is("a procedure that nobody calls", x.check(), NONE);
        Due.read(x, "proc m { call m; assert 0; }");
        due.is("calls without end", x.check(), NONE);
    }

    private void locals() {
        StackPrograms x = new StackPrograms();
        Due.read(x, "var g, h, i; proc m { var a, b; b = 1; i = 1; call n; assert !b; } "
            + "proc n { var c; assert !c; c = 1; h = c; if !g { g = 1; call n; } }");
        due.is("locals: check", x.check(), 14);
        step(x, 0, 0, 1, 0, 0, 1);
        step(x, 1, 1, 1, 0, 2, 1);
        step(x, 2, 2, 1, 4, 2, NONE);
        step(x, 3, 4, 2, 4, 0, 1);
        step(x, 4, 5, 2, 4, 0, 1);
        step(x, 5, 6, 2, 4, 1, 1);
        step(x, 6, 7, 2, 6, 1, 1);
        step(x, 7, 8, 2, 6, 1, 1);
        step(x, 8, 9, 2, 7, 1, NONE);
        step(x, 9, 4, 3, 7, 0, 1);
        step(x, 10, 5, 3, 7, 0, 1);
        step(x, 11, 6, 3, 7, 1, 1);
        step(x, 12, 7, 3, 7, 1, 0);
        step(x, 13, 3, 1, 7, 2, 0);
        step(x, 14, NONE, NONE, NONE, NONE, NONE);
    }

    private void recursion() {
        StackPrograms x = new StackPrograms();
        // As often as it went in, g is turned on the way out.
        Due.read(x, "var g; proc m { call r; assert !g; } proc r { if * { call r; g = !g; } }");
        due.is("recursion: check", x.check(), 6);
        step(x, 0, 0, 1, 0, 0, NONE);
        step(x, 1, 2, 2, 0, 0, 1);
        step(x, 2, 3, 2, 0, 0, NONE);
        step(x, 3, 2, 3, 0, 0, 0);
        step(x, 4, 4, 2, 0, 0, 1);
        step(x, 5, 1, 1, 1, 0, 0);
        Due.read(x, "var g; proc m { call r; assert g | 1; } proc r { if * { call r; g = !g; } }");
        due.is("recursion: no fail", x.check(), NONE);
        due.is("recursion: no fail", x.trace(0, 0), NONE);
    }

    private void takesZeroWhereRunsPart() {
        StackPrograms x = new StackPrograms();
        Due.read(x, "var a, b; proc m { a = *; b = *; if a { assert !b; } else { assert !b; } }");
        due.is("parts: check", x.check(), 4);
        step(x, 0, 0, 1, 0, 0, 0);
        step(x, 1, 1, 1, 0, 0, 1);
        step(x, 2, 2, 1, 2, 0, 0);
        step(x, 3, 4, 1, 2, 0, 0);
        Due.read(x, "var a; proc m { call n; if a { assert 0; } else { assert 0; } } proc n { if * { a = 1; } else { a = 0; } }");
        due.is("parts: in a call", x.check(), 5);
        step(x, 1, 4, 2, 0, 0, 0);
        step(x, 2, 6, 2, 0, 0, 0);
        step(x, 4, 3, 1, 0, 0, 0);
    }

    private void shorterIsBetterThanZero() {
        StackPrograms x = new StackPrograms();
        Due.read(x, "proc m { if * { assert 0; } else { skip; assert 0; } }");
        due.is("shorter: check", x.check(), 2);
        step(x, 0, 0, 1, 0, 0, 1);
        Due.read(x, "proc m { assert *; assert 0; }");
        due.is("shorter: the first assert", x.check(), 1);
        Due.read(x, "proc m { if * { skip; assert 0; } else { skip; assert 0; } }");
        due.is("shorter: as long", x.check(), 3);
        step(x, 0, 0, 1, 0, 0, 0);
        step(x, 1, 3, 1, 0, 0, NONE);
    }

    private void traceStays() {
        StackPrograms x = new StackPrograms();
        Due.read(x, "var a; proc m { a = 1; assert !a; }");
        due.is("stays: nothing checked yet", x.trace(0, 0), NONE);
        due.is("stays: check", x.check(), 2);
        due.is("stays: trace", x.trace(1, 2), 1);
        due.is("stays: check again", x.check(), 2);
        due.is("stays: trace", x.trace(1, 2), 1);
        for (int k : new int[] {Integer.MIN_VALUE, -1, 2, Integer.MAX_VALUE}) {
            due.is("stays: k", x.trace(k, 0), NONE);
            due.is("stays: k and what", x.trace(k, 5), BAD);
        }
        due.is("stays: what", x.trace(0, -1), BAD);
        due.is("stays: what", x.trace(0, 5), BAD);
        Due.read(x, "proc m { skip; skip; skip; assert 0; }");
        due.is("stays: another program is read", x.trace(1, 0), 1);
        due.is("stays: another program is read", x.trace(2, 0), NONE);
        Due.read(x, "proc m {");
        due.is("stays: no program", x.check(), BAD);
        due.is("stays: no program", x.trace(1, 2), 1);
        Due.read(x, "proc m { skip; skip; skip; assert 0; }");
        due.is("stays: checked", x.check(), 4);
        due.is("stays: the new one", x.trace(3, 0), 3);
        due.is("stays: the new one", x.trace(1, 2), 0);
        Due.read(x, "proc m { skip; }");
        due.is("stays: not failing", x.check(), NONE);
        due.is("stays: none", x.trace(0, 0), NONE);
    }

    private void limitOfTrace() {
        StackPrograms x = new StackPrograms();
        // A call of t takes 6 steps, of s 1 + 6 * 6 = 37, of r 1 + 6 * 37 = 223: 8 * 223 + 5 * 37 + 5 * 6 = 1999.
        String called = "proc r{" + "call s;".repeat(6) + "}proc s{" + "call t;".repeat(6) + "}proc t{" + "skip;".repeat(5) + "}";
        String main = "proc m{" + "call r;".repeat(8) + "call s;".repeat(5) + "call t;".repeat(5);
        due.is("limit of trace: read", Due.read(x, main + "assert 0;}" + called), 36);
        due.is("limit of trace: check", x.check(), 2000);
        step(x, 0, 0, 1, 0, 0, NONE);
        step(x, 3, 31, 4, 0, 0, NONE);
        step(x, 8, 26, 3, 0, 0, NONE);
        step(x, 1998, 35, 2, 0, 0, NONE);
        step(x, 1999, 18, 1, 0, 0, 0);
        step(x, 2000, NONE, NONE, NONE, NONE, NONE);
        due.is("limit of trace: read", Due.read(x, main + "skip;assert 0;}" + called), 37);
        due.is("limit of trace: the one before", x.trace(1999, 0), 18);
        due.is("limit of trace: check", x.check(), 2001);
        step(x, 0, NONE, NONE, NONE, NONE, NONE);
        step(x, 2000, NONE, NONE, NONE, NONE, NONE);
    }

    private void limitOfCheck() {
        StackPrograms x = new StackPrograms();
        String next = "a=a&!b|!a&b;b=!b;}}";
        String loop = "{var a,b;while !a|!b{";
        StringBuilder text = new StringBuilder();
        for (int i = 0; i < 6; i++) {
            String called = "call " + (char) ('b' + i) + ";";
            String body = i == 5 ? "skip;" : called.repeat(3);
            text.append("proc ").append((char) ('a' + i)).append(loop).append(body).append(next);
        }
        // The innermost does 3 * 4 + 1 = 13 steps, each other 3 * (1 + 3 * (1 + n) + 2) + 1.
        long steps = 13;
        for (int i = 4; i >= 0; i--) {
            steps = 3 * (1 + 3 * (1 + steps) + 2) + 1;
        }
        due.holds("limit of check: long", steps > 800000);
        String failing = text.toString().replaceFirst("b=!b;}}", "b=!b;}assert 0;}");
        due.is("limit of check: read", Due.read(x, failing), 35);
        due.is("limit of check: check", x.check(), Math.min(steps + 1, 1000000));
        due.is("limit of check: no trace", x.trace(0, 0), NONE);
        String longer = failing.replaceFirst("call b;", "call b;call b;");
        due.is("limit of check: read", Due.read(x, longer), 36);
        due.is("limit of check: check", x.check(), 1000000);
        due.is("limit of check: no trace", x.trace(0, 0), NONE);
    }

    private void deepCalls() {
        StackPrograms x = new StackPrograms();
        // Each call counts one further, from 0 to 7: 5 steps in each, one more where a is 1, and where b is too.
        Due.read(x, "var a, b, c; proc m { if a & b & c { assert 0; } "
            + "if a & b { c = !c; } if a { b = !b; } a = !a; call m; }");
        due.is("deep: check", x.check(), 7 * 5 + 3 + 1 + 2);
        step(x, 40, 1, 8, 7, 0, 0);
    }
}
