/**
 * The sentences of part 2 and of promises 16 and 17 that name a boundary of a run, each with a test of its own: the first
 * and the last step, too many of them, none, and what the calls behind a refused one answer.
 */
final class RunBoundsTest {
    private static final int NONE = StackPrograms.NONE;
    private static final int BAD = StackPrograms.BAD;
    private static final int[] NO_WHAT = {Integer.MIN_VALUE, -2, -1, 5, 6, 256, Integer.MAX_VALUE};

    private final Due due = new Due("RunBoundsTest");

    public static void main(String[] args) {
        RunBoundsTest test = new RunBoundsTest();
        test.runs();
        test.steps();
        test.checks();
        test.traces();
        test.due.close();
    }

    private void runs() {
        globalsAreZeroAtFirst();
        theFirstProcedureIsCalled();
        localsAreZeroInEachCall();
        localsStayBelowACall();
        firstCallEnds();
        procedureWithoutStatements();
        callsEndAtOnce();
    }

    private void steps() {
        valuesOfStars();
        bothPartsCount();
        setTakesWhatItCanBe();
        ifTakesWhatItCanBe();
        whileTakesWhatItCanBe();
        emptyBraces();
        lastOfAWhile();
        returnEndsTheCall();
        assertGoesOnOrFails();
        assumeGoesOnOrStops();
        movesAreNoSteps();
    }

    private void checks() {
        checkWithoutAProgram();
        checkOfNoFailure();
        checkOfEndlessRuns();
        checkOfOneStep();
        checkOfTheFewest();
        checkOfAMillionSteps();
        checkOfManyMoreSteps();
        checkAgain();
    }

    private void traces() {
        traceWithoutACheck();
        traceWithoutAFailure();
        whatOfTrace();
        stepsOfTrace();
        statementsOfTrace();
        callsOfTrace();
        callsOfTheNextTrace();
        globalsOfTrace();
        localsOfTrace();
        valuesOfTrace();
        traceOfTwoThousandSteps();
        traceOfOneMoreStep();
        traceTakesZero();
        traceOfTheLatestCheck();
        traceBehindABadCheck();
    }

    private StackPrograms reads(String text) {
        StackPrograms x = new StackPrograms();
        due.holds("read: " + text, Due.read(x, text) >= 0);
        return x;
    }

    private void checks(String text, int want) {
        due.is("check: " + text, reads(text).check(), want);
    }

    private void row(StackPrograms x, int what, int... want) {
        for (int k = 0; k < want.length; k++) {
            due.is("trace(" + k + ", " + what + ")", x.trace(k, what), want[k]);
        }
        due.is("trace(" + want.length + ", " + what + ")", x.trace(want.length, what), NONE);
    }

    // ---- a run

    private void globalsAreZeroAtFirst() {
        due.by("globals are 0 at first");
        checks("var a, b, c; proc m { assert !a; assert !b; assert !c; }", NONE);
        checks("var a, b, c; proc m { assert a; }", 1);
        checks("var a, b, c; proc m { assert b; }", 1);
        checks("var a, b, c; proc m { assert c; }", 1);
        StackPrograms x = reads("var a; proc m { a = 1; assert !a; }");
        due.is("check", x.check(), 2);
        due.is("read", Due.read(x, "var a; proc m { assert a; }"), 1);
        due.is("check: another run", x.check(), 1);
        row(x, 2, 0);
    }

    private void theFirstProcedureIsCalled() {
        due.by("the first procedure is called");
        checks("proc m { assert 0; } proc n { }", 1);
        checks("proc m { } proc n { assert 0; }", NONE);
        checks("proc a { call f; } proc b { assert 0; } proc c { assert 0; } proc f { skip; assert 0; }", 3);
    }

    private void localsAreZeroInEachCall() {
        due.by("A CALL begins at its procedure's first statement, its locals 0");
        checks("proc m { var a, b; assert !a & !b; }", NONE);
        checks("proc m { var a; a = 1; call n; call n; } proc n { var b, c; assert !b; assert !c; b = 1; c = 1; }", NONE);
        checks("var g; proc m { var a; assert !a; a = 1; if !g { g = 1; call m; } }", NONE);
        checks("var g; proc m { var a; a = 1; if !g { g = 1; call n; } } proc n { var a; assert a; }", 5);
    }

    private void localsStayBelowACall() {
        due.by("the call that it came from is behind its call statement then (its locals as they were)");
        checks("proc m { var a, b; a = 1; call n; assert a; assert !b; } proc n { var c, d; d = 1; }", NONE);
        checks("proc m { var a, b; b = 1; call n; assert !b; } proc n { var c, d; c = 1; }", 4);
        checks("var g; proc m { var a; a = g; if !g { g = 1; call m; } assert a; }", 8);
    }

    private void firstCallEnds() {
        due.by("where the first call ends, the run does");
        checks("proc m { return; assert 0; }", NONE);
        checks("proc m { if 1 { return; } assert 0; }", NONE);
        checks("proc m { } proc n { assert 0; }", NONE);
        checks("proc m { skip; } proc n { assert 0; }", NONE);
        checks("proc m { if * { skip; } else { return; } assert 0; }", 3);
        // It can end sooner than it can fail.
        StackPrograms x = reads("proc m { skip; if * { skip; assert 0; } }");
        due.is("check", x.check(), 4);
        row(x, 0, 0, 1, 2, 3);
        row(x, 4, NONE, 1, NONE, 0);
    }

    private void procedureWithoutStatements() {
        due.by("a call of a procedure without statements ends at once");
        checks("proc m { call n; assert 0; } proc n { }", 2);
        checks("proc m { call n; call n; call n; assert 0; } proc n { var a; }", 4);
        checks("proc m { while * { call n; } assert 0; } proc n { }", 2);
        StackPrograms x = reads("proc m { call o; assert 0; } proc n { } proc o { call n; call n; }");
        due.is("check", x.check(), 4);
        row(x, 0, 0, 2, 3, 1);
        row(x, 1, 1, 2, 2, 1);
    }

    private void callsEndAtOnce() {
        due.by("at once (perhaps it ends at once, too)");
        StackPrograms x = reads("proc a{call b;assert 0;}proc b{call c;}proc c{if 1{call d;}}proc d{call e;}proc e{call f;}"
            + "proc f{skip;}");
        due.is("check", x.check(), 8);
        row(x, 0, 0, 2, 3, 4, 5, 6, 7, 1);
        row(x, 1, 1, 2, 3, 3, 4, 5, 6, 1);
        checks("proc a { call b; } proc b { call c; } proc c { return; }", NONE);
    }

    // ---- a step

    private void valuesOfStars() {
        due.by("each NAME and each * by itself");
        checks("proc m { assert * | !*; }", 1);
        checks("proc m { assume * & !*; assert 0; }", 2);
        checks("var a; proc m { a = *; assert a | !a; }", NONE);
        checks("var a; proc m { a = *; assume a & !a; assert 0; }", NONE);
    }

    private void bothPartsCount() {
        due.by("both parts of & and | always count");
        checks("proc m { assert 1 | *; }", NONE);
        checks("proc m { assume 0 & *; assert 0; }", NONE);
        checks("proc m { assume * & 1; assert 0 | *; }", 2);
        checks("proc m { assert !(0 & *); }", NONE);
        checks("proc m { assert !(1 & *); }", 1);
    }

    private void setTakesWhatItCanBe() {
        due.by("NAME = EXP: one of what it can be is set");
        checks("var a; proc m { a = 0; assert !a; a = 1; assert a; }", NONE);
        checks("var a; proc m { a = *; assert a; }", 2);
        checks("var a; proc m { a = *; assert !a; }", 2);
        checks("var a, b, c; proc m { var d, e; c = 1; e = 1; b = c; d = e; a = b & d; assert !a; }", 6);
    }

    private void ifTakesWhatItCanBe() {
        due.by("if: 1 goes into the { } behind it, 0 to else, or behind");
        checks("proc m { if 1 { assert 0; } else { skip; } }", 2);
        checks("proc m { if 0 { skip; } else { assert 0; } }", 2);
        checks("proc m { if 0 { assert 0; } else { skip; } }", NONE);
        checks("proc m { if 1 { skip; } else { assert 0; } }", NONE);
        checks("proc m { if 0 { assert 0; } }", NONE);
        checks("proc m { if 0 { skip; } assert 0; }", 2);
        checks("proc m { if 1 { skip; } assert 0; }", 3);
        checks("proc m { if * { skip; skip; } else { skip; } assert 0; }", 3);
    }

    private void whileTakesWhatItCanBe() {
        due.by("while: 1 goes into the { } behind it, 0 .. behind");
        checks("proc m { while 0 { assert 0; } }", NONE);
        checks("proc m { while 1 { assert 0; } }", 2);
        checks("proc m { while 1 { skip; } assert 0; }", NONE);
        checks("proc m { while 0 { skip; } assert 0; }", 2);
        checks("var a; proc m { while !a { a = 1; } assert 0; }", 4);
        checks("proc m { while * { skip; } assert 0; }", 2);
    }

    private void emptyBraces() {
        due.by("Behind the last statement of a { } (of which there is none, perhaps)");
        checks("proc m { if 1 { } assert 0; }", 2);
        checks("proc m { if 1 { } else { assert 0; } }", NONE);
        checks("proc m { if 0 { assert 0; } else { } assert 0; }", 2);
        checks("proc m { while 1 { } assert 0; }", NONE);
        checks("proc m { while * { } assert 0; }", 2);
        checks("var a; proc m { while !a { if * { } else { a = 1; } } assert 0; }", 5);
        checks("proc m { call n; assert 0; } proc n { while 1 { if 1 { return; } } }", 5);
    }

    private void lastOfAWhile() {
        due.by("Behind the last statement of a { } of while one is at the while, of if behind the if");
        StackPrograms x = reads("var a; proc m { while !a { if 1 { if 1 { a = 1; } } } assert 0; }");
        due.is("check", x.check(), 6);
        row(x, 0, 0, 1, 2, 3, 0, 4);
        StackPrograms y = reads("var a; proc m { if 1 { while !a { call n; } } assert 0; } proc n { a = 1; }");
        due.is("check", y.check(), 6);
        row(y, 0, 0, 1, 2, 4, 1, 3);
    }

    private void returnEndsTheCall() {
        due.by("return ends the call");
        StackPrograms x = reads("proc m { call n; assert 0; } proc n { while 1 { if 1 { return; } assert 0; } }");
        due.is("check", x.check(), 5);
        row(x, 0, 0, 2, 3, 4, 1);
        row(x, 1, 1, 2, 2, 2, 1);
        checks("proc m { call n; } proc n { return; assert 0; }", NONE);
    }

    private void assertGoesOnOrFails() {
        due.by("assert: 1 goes on, with 0 the run FAILS");
        checks("proc m { assert 1; assert 1; assert 0; }", 3);
        checks("proc m { assert 0; assert 0; }", 1);
        checks("proc m { assert *; }", 1);
        checks("proc m { assert 1; }", NONE);
    }

    private void assumeGoesOnOrStops() {
        due.by("assume: 1 goes on, with 0 it stops");
        checks("proc m { assume 1; assert 0; }", 2);
        checks("proc m { assume *; assert 0; }", 2);
        checks("proc m { assume 0; assert 0; }", NONE);
        checks("proc m { call n; assert 0; } proc n { assume 0; }", NONE);
    }

    private void movesAreNoSteps() {
        due.by("these are no steps");
        checks("proc m { if 1 { if 1 { if 1 { skip; } } } assert 0; }", 5);
        checks("proc m { call n; assert 0; } proc n { if 1 { call o; } } proc o { if 0 { } }", 5);
        checks("proc m { call n; assert 0; } proc n { skip; }", 3);
        checks("proc m { call n; assert 0; } proc n { skip; return; }", 4);
    }

    // ---- promise 16

    private void checkWithoutAProgram() {
        due.by("check: BAD: there is no program");
        StackPrograms x = new StackPrograms();
        due.is("check: a new object", x.check(), BAD);
        Due.type(x, "proc m { assert 0; }");
        due.is("check: not read yet", x.check(), BAD);
        due.is("read", x.read(), 1);
        due.is("check: read", x.check(), 1);
        due.is("read: nothing", x.read(), -12);
        due.is("check: no program any more", x.check(), BAD);
        due.is("check: still none", x.check(), BAD);
        due.is("read: a program again", Due.read(x, "proc m { }"), 0);
        due.is("check: none fails", x.check(), NONE);
    }

    private void checkOfNoFailure() {
        due.by("check: NONE: no run fails");
        checks("proc m { }", NONE);
        checks("proc m { skip; }", NONE);
        checks("proc m { assert 1; }", NONE);
        checks("var a; proc m { a = *; assume a; assert a; }", NONE);
        checks("proc m { assert 1; } proc n { assert 0; }", NONE);
    }

    private void checkOfEndlessRuns() {
        due.by("check: NONE: no run fails (though runs need not end)");
        checks("proc m { call m; assert 0; }", NONE);
        checks("proc m { call n; assert 0; } proc n { call m; }", NONE);
        checks("proc m { while 1 { call n; } assert 0; } proc n { skip; }", NONE);
        checks("var a; proc m { a = !a; call m; assert 0; }", NONE);
        checks("proc m { if * { call m; } assert 0; }", 2);
    }

    private void checkOfOneStep() {
        due.by("the assert that fails is the last of them (of one step)");
        StackPrograms x = reads("proc m { assert 0; }");
        due.is("check", x.check(), 1);
        row(x, 0, 0);
        row(x, 4, 0);
    }

    private void checkOfTheFewest() {
        due.by("TO CHECK: whether a run can FAIL; in how few steps");
        checks("proc m { if * { skip; skip; assert 0; } else { if * { skip; assert 0; } assert 0; } }", 3);
        checks("var a; proc m { while !a { a = *; } assert 0; }", 4);
        checks("proc m { call n; call n; assert 0; } proc n { if * { skip; skip; } }", 5);
    }

    /**
     * The proc m fails in 999,998 steps and as many more as there are skips. A call of b takes 14 steps, of c 221, of d 885,
     * of e 10,631, of f 16; m counts from 0 to 31 with three of e and one of f each time, then calls e once more.
     */
    private static String aMillion(int skips) {
        String three = "{var v,w;while !v|!w{";
        String next = "v=v&!w|!v&w;w=!w;}}";
        return "var x,y,z;proc m{var v,w;while !(x&y&z&v&w){call e;call e;call e;call f;w=w&!(x&y&z&v)|!w&x&y&z&v;"
            + "v=v&!(x&y&z)|!v&x&y&z;z=z&!(x&y)|!z&x&y;y=y&!x|!y&x;x=!x;}call e;" + "skip;".repeat(skips) + "assert 0;}"
            + "proc b" + three + "skip;" + next + "proc c" + three + "call b;".repeat(5) + next + "proc d{" + "call c;".repeat(4)
            + "}proc e" + three + "call d;".repeat(4) + next + "proc f{skip;call b;}";
    }

    private void checkOfAMillionSteps() {
        due.by("of more than 1,000,000 steps 1,000,000 is told");
        int[] told = {999998, 999999, 1000000, 1000000};
        StackPrograms x = new StackPrograms();
        for (int skips = 0; skips < told.length; skips++) {
            due.is("read", Due.read(x, aMillion(skips)), 37 + skips);
            due.is("check: " + (999998 + skips), x.check(), told[skips]);
            due.is("trace: none", x.trace(0, 0), NONE);
        }
    }

    private void checkOfManyMoreSteps() {
        due.by("of more than 1,000,000 steps 1,000,000 is told (of far more)");
        StackPrograms x = new StackPrograms();
        String far = aMillion(0).replace("skip;v=", "call f;v=").replace("proc f{skip;call b;}", "proc f{" + "skip;".repeat(5) + "}");
        due.is("read", Due.read(x, far), 40);
        due.is("check", x.check(), 1000000);
        String never = aMillion(0).replace("assert 0;", "assert 1;");
        due.is("read", Due.read(x, never), 37);
        due.is("check: none is not many", x.check(), NONE);
    }

    private void checkAgain() {
        due.by("check: the same once more");
        StackPrograms x = reads("var a; proc m { a = 1; assert !a; }");
        for (int i = 0; i < 3; i++) {
            due.is("check", x.check(), 2);
            due.is("trace", x.trace(1, 2), 1);
        }
    }

    // ---- promise 17

    private void traceWithoutACheck() {
        due.by("THE TRACE of the latest check(): there is none");
        StackPrograms x = new StackPrograms();
        for (int what = 0; what <= 4; what++) {
            due.is("trace: a new object", x.trace(0, what), NONE);
        }
        Due.read(x, "proc m { assert 0; }");
        due.is("trace: read only", x.trace(0, 0), NONE);
        x.check();
        due.is("trace: checked", x.trace(0, 0), 0);
    }

    private void traceWithoutAFailure() {
        due.by("NONE (of k): .. or there is none");
        StackPrograms x = reads("proc m { assert 1; }");
        due.is("check", x.check(), NONE);
        for (int k : new int[] {Integer.MIN_VALUE, -1, 0, 1, 1999, 2000, Integer.MAX_VALUE}) {
            due.is("trace: " + k, x.trace(k, 0), NONE);
            due.is("trace: " + k, x.trace(k, 4), NONE);
        }
    }

    private void whatOfTrace() {
        due.by("trace: BAD: what");
        StackPrograms x = new StackPrograms();
        for (int what : NO_WHAT) {
            due.is("trace: without one", x.trace(0, what), BAD);
        }
        Due.read(x, "proc m { assert 0; }");
        x.check();
        for (int what : NO_WHAT) {
            for (int k : new int[] {Integer.MIN_VALUE, -1, 0, 1, Integer.MAX_VALUE}) {
                due.is("trace: what " + what + " of " + k, x.trace(k, what), BAD);
            }
        }
        int[] first = {0, 1, 0, 0, 0};
        for (int what = 0; what <= 4; what++) {
            due.is("trace: what " + what, x.trace(0, what), first[what]);
        }
    }

    private void stepsOfTrace() {
        due.by("Of step k, from 0 .. NONE (of k): it has not so many");
        StackPrograms x = reads("proc m { skip; skip; assert 0; }");
        due.is("check", x.check(), 3);
        for (int k = 0; k < 3; k++) {
            due.is("trace: " + k, x.trace(k, 0), k);
        }
        for (int k : new int[] {Integer.MIN_VALUE, -1, 3, 4, 1999, 2000, 2001, Integer.MAX_VALUE}) {
            for (int what = 0; what <= 4; what++) {
                due.is("trace: " + k, x.trace(k, what), NONE);
            }
        }
    }

    private void statementsOfTrace() {
        due.by("what = 0 the statement that it does");
        StackPrograms x = reads("proc m { " + "skip; ".repeat(39) + "assert 0; }");
        due.is("check", x.check(), 40);
        for (int k = 0; k < 40; k++) {
            due.is("trace: " + k, x.trace(k, 0), k);
        }
        due.is("trace: no more", x.trace(40, 0), NONE);
    }

    private void callsOfTrace() {
        due.by("1 how many calls are open");
        StackPrograms x = reads("proc a{call b;assert 0;}proc b{call c;}proc c{call d;skip;}proc d{call e;}proc e{call f;}"
            + "proc f{assert 1;return;}");
        due.is("check", x.check(), 9);
        row(x, 0, 0, 2, 3, 5, 6, 7, 8, 4, 1);
        row(x, 1, 1, 2, 3, 4, 5, 6, 6, 3, 1);
        StackPrograms y = reads("var a, b; proc m { a = *; if a { call m; b = !b; } assert !b | a; }");
        due.is("check", y.check(), 8);
        row(y, 1, 1, 1, 1, 2, 2, 2, 1, 1);
    }

    private void callsOfTheNextTrace() {
        due.by("1 how many calls are open (as if no other run had been)");
        StackPrograms x = reads("proc m { call n; } proc n { call o; } proc o { assert 0; }");
        due.is("check", x.check(), 3);
        row(x, 1, 1, 2, 3);
        Due.read(x, "proc m { skip; call n; assert 0; } proc n { skip; }");
        due.is("check", x.check(), 4);
        row(x, 1, 1, 1, 2, 1);
        Due.read(x, "proc m { assert 0; }");
        due.is("check", x.check(), 1);
        row(x, 1, 1);
    }

    private void globalsOfTrace() {
        due.by("2 the globals before it as bits (the first one 1)");
        StackPrograms x = reads("var a, b, c; proc m { a = 1; b = 1; a = 0; c = 1; b = 0; a = 1; b = 1; assert 0; }");
        due.is("check", x.check(), 8);
        row(x, 2, 0, 1, 3, 2, 6, 4, 5, 7);
        row(x, 3, 0, 0, 0, 0, 0, 0, 0, 0);
    }

    private void localsOfTrace() {
        due.by("3 the locals of the latest call likewise");
        StackPrograms x = reads("var a, b, c; proc m { var d, e; d = 1; e = 1; call n; d = 0; assert 0; }"
            + " proc n { var d; d = 1; skip; }");
        due.is("check", x.check(), 7);
        row(x, 3, 0, 1, 3, 0, 1, 3, 2);
        row(x, 2, 0, 0, 0, 0, 0, 0, 0);
    }

    private void valuesOfTrace() {
        due.by("4 what it took: the value (of =, if, while, assert, assume), else NONE");
        StackPrograms x = reads("var a; proc m { a = 1; if a { a = 0; } while a { } assume !a; if a { } call n; call o; skip;"
            + " assert 1; while !a { a = 1; } assert !a; } proc n { return; } proc o { }");
        due.is("check", x.check(), 15);
        row(x, 0, 0, 1, 2, 3, 4, 5, 6, 13, 7, 8, 9, 10, 11, 10, 12);
        row(x, 4, 1, 1, 0, 0, 1, 0, NONE, NONE, NONE, NONE, 1, 1, 1, 0, 0);
    }

    /** It fails in 2000 steps and as many more as there are skips: a call of t takes 6, of s 37, of r 223. */
    private static String twoThousand(int skips) {
        return "proc m{" + "call r;".repeat(8) + "call s;".repeat(5) + "call t;".repeat(5) + "skip;".repeat(skips)
            + "assert 0;}proc r{" + "call s;".repeat(6) + "}proc s{" + "call t;".repeat(6) + "}proc t{" + "skip;".repeat(5) + "}";
    }

    private void traceOfTwoThousandSteps() {
        due.by("THE TRACE is that run (none, if its steps are more than 2000): 2000");
        StackPrograms x = reads(twoThousand(0));
        due.is("check", x.check(), 2000);
        int[] first = {0, 19, 25, 31, 32, 33, 34, 35, 26, 31};
        int[] open = {1, 2, 3, 4, 4, 4, 4, 4, 3, 4};
        for (int k = 0; k < first.length; k++) {
            due.is("trace: " + k, x.trace(k, 0), first[k]);
            due.is("trace: " + k, x.trace(k, 1), open[k]);
        }
        due.is("trace: 1998", x.trace(1998, 0), 35);
        due.is("trace: 1999", x.trace(1999, 0), 18);
        due.is("trace: 1999", x.trace(1999, 4), 0);
        due.is("trace: 2000", x.trace(2000, 0), NONE);
    }

    private void traceOfOneMoreStep() {
        due.by("THE TRACE .. (none, if its steps are more than 2000): 2001");
        StackPrograms x = reads(twoThousand(1));
        due.is("check", x.check(), 2001);
        for (int k : new int[] {0, 1, 1999, 2000, 2001}) {
            due.is("trace: " + k, x.trace(k, 0), NONE);
            due.is("trace: " + k, x.trace(k, 4), NONE);
        }
        Due.read(x, twoThousand(0));
        due.is("check: 2000", x.check(), 2000);
        due.is("trace: 1999", x.trace(1999, 0), 18);
        Due.read(x, twoThousand(1));
        due.is("trace: of the latest check", x.trace(1999, 0), 18);
        due.is("check: 2001", x.check(), 2001);
        due.is("trace: none", x.trace(0, 0), NONE);
        due.is("trace: none", x.trace(1999, 0), NONE);
    }

    private void traceTakesZero() {
        due.by("of several the one that at the first step at which they part takes 0");
        StackPrograms x = reads("var a, b; proc m { a = *; b = *; assert 0; }");
        due.is("check", x.check(), 3);
        row(x, 4, 0, 0, 0);
        // A 0 at the first step outweighs those at all others.
        StackPrograms y = reads("var a, b, c; proc m { a = *; b = *; c = *; assert a & !b & !c | !a & b & c; }");
        due.is("check", y.check(), 4);
        row(y, 4, 0, 0, 0, 0);
        StackPrograms z = reads("var a, b, c; proc m { a = *; b = *; c = *; assume a & !b & !c | !a & b & c; assert 0; }");
        due.is("check", z.check(), 5);
        row(z, 4, 0, 1, 1, 1, 0);
        // But a shorter one comes before any.
        StackPrograms w = reads("proc m { if * { assert 0; } skip; assert 0; }");
        due.is("check", w.check(), 2);
        row(w, 4, 1, 0);
    }

    private void traceOfTheLatestCheck() {
        due.by("of the latest check()");
        StackPrograms x = reads("proc m { skip; assert 0; }");
        due.is("check", x.check(), 2);
        row(x, 0, 0, 1);
        due.is("read: another", Due.read(x, "proc m { assert *; }"), 1);
        row(x, 0, 0, 1);
        due.is("check", x.check(), 1);
        row(x, 0, 0);
        due.is("read: one that does not fail", Due.read(x, "proc m { }"), 0);
        row(x, 0, 0);
        due.is("check", x.check(), NONE);
        row(x, 0);
        due.is("read: the first again", Due.read(x, "proc m { skip; assert 0; }"), 2);
        row(x, 0);
        due.is("check", x.check(), 2);
        row(x, 0, 0, 1);
    }

    private void traceBehindABadCheck() {
        due.by("of the latest check() that was not BAD");
        StackPrograms x = reads("var a; proc m { a = 1; assert !a; }");
        due.is("check", x.check(), 2);
        due.is("read: a fault", Due.read(x, "proc m { skip; skip; assert 0; } ?"), -11);
        row(x, 0, 0, 1);
        due.is("check: bad", x.check(), BAD);
        row(x, 0, 0, 1);
        row(x, 2, 0, 1);
        row(x, 4, 1, 0);
        StackPrograms y = reads("proc m { }");
        due.is("check: none", y.check(), NONE);
        Due.read(y, "?");
        due.is("check: bad", y.check(), BAD);
        due.is("trace: still none", y.trace(0, 0), NONE);
    }
}
