/** The faults of promises 13 and 14: which is told, and where. A text has the mark @ just before the fault's place. */
final class FaultsTest {
    private final Due due = new Due("FaultsTest");
    private StackPrograms x;

    public static void main(String[] args) {
        FaultsTest test = new FaultsTest();
        test.unknownBytes();
        test.outOfPlace();
        test.toldTwice();
        test.noVariable();
        test.tooMany();
        test.tooDeep();
        test.noProcedure();
        test.firstAsItIsRead();
        test.anotherReadForgets();
        test.due.close();
    }

    private void fault(int number, String marked) {
        int at = marked.indexOf('@');
        String text = marked.substring(0, at) + marked.substring(at + 1);
        x = new StackPrograms();
        int typed = Due.type(x, text);
        due.is("typed: " + marked, typed, text.length());
        due.is("read: " + marked, x.read(), -10 - number);
        due.is("place: " + marked, x.place(), at);
        due.is("no program: " + marked, x.check(), StackPrograms.BAD);
    }

    private void fine(String text, int statements) {
        x = new StackPrograms();
        due.is("read: " + text, Due.read(x, text), statements);
        due.is("place: " + text, x.place(), StackPrograms.NONE);
    }

    private void unknownBytes() {
        fault(1, "@A");
        fault(1, "proc m { @2 }");
        fault(1, "proc m @. ");
        fault(1, "proc m {} @\t");
        fault(1, "proc m {} @\u0000");
        fault(1, "proc m {} @\u00ff");
        fault(1, "proc m {} @\u008a");
        fault(1, "proc m {} @_");
        fault(1, "proc m @+");
        fault(1, "proc m@M {}");
        fault(1, "proc @abcdefghi {}");
        fault(1, "proc @a12345678 {}");
        fault(1, "@procprocproc");
        fault(1, "proc m { skip; @assertassert 1; }");
        fault(1, "var a, @abcdefghijklmnopqrstuvwxyz; proc m {}");
        fine("proc a1234567 {}", 0);
    }

    private void outOfPlace() {
        fault(2, "@");
        fault(2, "  \n @");
        fault(2, "@m");
        fault(2, "@{ }");
        fault(2, "var @");
        fault(2, "var @;");
        fault(2, "var a @");
        fault(2, "var a @b; proc m {}");
        fault(2, "var a, @; proc m {}");
        fault(2, "var a, @if; proc m {}");
        fault(2, "var a, @proc m {}");
        fault(2, "var a; @");
        fault(2, "var a; @var b; proc m {}");
        fault(2, "var a; @a = 1;");
        fault(2, "proc @");
        fault(2, "proc @{}");
        fault(2, "proc @var {}");
        fault(2, "proc m @skip;");
        fault(2, "proc m {@");
        fault(2, "proc m {   @");
        fault(2, "proc m { @; }");
        fault(2, "proc m { @{ } }");
        fault(2, "proc m { @else { } }");
        fault(2, "proc m { @proc n {} }");
        fault(2, "proc m { skip; @var a; }");
        fault(2, "proc m { var a; @var b; }");
        fault(2, "proc m { var a @}");
        fault(2, "proc m { skip @}");
        fault(2, "proc m { skip @1; }");
        fault(2, "proc m { return @0; }");
        fault(2, "proc m { call @; }");
        fault(2, "proc m { call @skip; }");
        fault(2, "proc m { call m @, }");
        fault(2, "proc m { assert @; }");
        fault(2, "proc m { assume @}");
        fault(2, "proc m { assert 1 @1; }");
        fault(2, "proc m { assert 0@1; }");
        fault(2, "proc m { assert 1 & @& 1; }");
        fault(2, "proc m { assert 1 | @; }");
        fault(2, "proc m { assert ! @; }");
        fault(2, "proc m { assert 1 @! 1; }");
        fault(2, "proc m { assert ( @); }");
        fault(2, "proc m { assert ( 1 @; }");
        fault(2, "proc m { assert 1 @); }");
        fault(2, "proc m { assert @= 1; }");
        fault(2, "proc m { assert @skip; }");
        fault(2, "proc m { if @{ } }");
        fault(2, "proc m { if 1 @skip; }");
        fault(2, "proc m { if 1 { skip; @");
        fault(2, "proc m { if 1 { } else @skip; }");
        fault(2, "proc m { if 1 { } else @if 1 { } }");
        fault(2, "proc m { if 1 { } else { } @else { } }");
        fault(2, "proc m { while 1 { } @else { } }");
        fault(2, "proc m { while 1 @; }");
        fault(2, "proc m { if 1 { } @; }");
        fault(2, "proc m { } @}");
        fault(2, "proc m { } @m");
        fault(2, "proc m { } @var a;");
        fault(2, "var a; proc m { a @; }");
        fault(2, "var a; proc m { a @( 1 ); }");
        fault(2, "var a; proc m { a = @; }");
        fault(2, "var a; proc m { a = 1 @}");
        fault(2, "var a; proc m { @0 = 1; }");
    }

    private void toldTwice() {
        fault(3, "var a, @a; proc m {}");
        fault(3, "var a, b, @a; proc m {}");
        fault(3, "var a; proc m { var @a; }");
        fault(3, "var a; proc m { var b, @a; }");
        fault(3, "proc m { var b, @b; }");
        fault(3, "proc m {} proc @m {}");
        fault(3, "proc m {} proc n {} proc @m {}");
        fine("var a; proc a { } proc b { var c; } proc c { var b, m; }", 0);
    }

    private void noVariable() {
        fault(3, "proc m { @a = 1; }");
        fault(3, "proc m { @m = 1; }");
        fault(3, "proc m { assert @a; }");
        fault(3, "var b; proc m { b = 1 & (0 | !@a); }");
        fault(3, "proc n { var a; } proc m { assert @a; }");
        fault(3, "proc m { assert @a; } proc n { var a; }");
        fault(3, "var b; proc m { @a = b; }");
        fault(3, "var a; proc m { a = @aa; }");
        fault(3, "var aa; proc m { aa = @a; }");
        fine("var a; proc m { var b; a = b; b = a; }", 2);
    }

    private void tooMany() {
        fault(3, "var a, b, c, @d; proc m {}");
        fault(2, "var a, b, c, @; proc m {}");
        fault(2, "var a, b, c, @skip; proc m {}");
        fault(3, "proc m { var a, b, @c; }");
        fault(2, "proc m { var a, b, @1; }");
        String six = "proc a{}proc b{}proc c{}proc d{}proc e{}proc f{}";
        fault(3, six + "proc @g{}");
        fault(3, six + "proc @a{}");
        fault(2, six + "proc @{}");
        fault(2, six + "proc @");
        fault(2, six + "@g{}");
        fine(six + "\n", 0);
        String forty = "proc m { var a; " + "skip;".repeat(30) + "while * { if 1 { a = 0; } else { return; }"
            + " call m; assert 1; assume 1; skip; } skip;";
        fine(forty + "}", 39);
        fine(forty + "a=1;}", 40);
        fault(3, forty + "a=1;@skip;}");
        fault(3, forty + "a=1;@a=1;}");
        fault(3, forty + "a=1;@b=1;}");
        fault(3, forty + "a=1;@if 1 {}}");
        fault(2, forty + "a=1;@;}");
        fault(2, forty + "a=1;@0}");
        fault(2, forty + "a=1;@else}");
        fault(3, forty + "a=1;}proc n{@return;}");
        fine(forty + "a=1;}proc n{}", 40);
    }

    private void tooDeep() {
        fine("proc m{assert !!!!!!!!!!1;}", 1);
        fault(3, "proc m{assert !!!!!!!!!!@!1;}");
        fault(3, "proc m{assert !!!!!!!!!!@(1);}");
        fault(3, "proc m{assert !(!(!(!(!(@(1))))));}");
        fine("proc m{assert !(!(!(!(!(1&1|1)))));}", 1);
        fault(3, "proc m{assert (((((((((1&(1&@!1))))))))));}");
        fault(2, "proc m{assert !!!!!!!!!!@);}");
        fine("proc m{assert ((((((((((1))))))))))&((((((((((1))))))))))|!!!!!!!!!!1;}", 1);
        fine("proc m{assert !!!!!!!!!(1)&!!!!!!!!!!1;}", 1);
        String nine = "if 1{".repeat(9);
        fine("proc m{" + nine + "}".repeat(10), 9);
        fault(3, "proc m{" + nine + "if 1@{" + "}".repeat(11));
        fault(3, "proc m{" + nine + "while 1@{" + "}".repeat(11));
        fault(2, "proc m{" + nine + "while 1@;" + "}".repeat(11));
        fault(3, "proc m{" + "if 1{}else{".repeat(9) + "if 1@{}}");
        fault(3, "proc m{" + "while 1{".repeat(8) + "if 1{}else{if*@{}}");
        fine("proc m{" + "if 1{}else{".repeat(9) + "}".repeat(10), 9);
        fine("proc m{" + "if 1{}".repeat(12) + "}", 12);
    }

    private void noProcedure() {
        fault(4, "proc m { call @n; }");
        fault(4, "var n; proc m { call @n; }");
        fault(4, "proc m { call m; call k; if * { call @n; } call o; } proc k { call p; }");
        fault(4, "proc m { call @p; } proc k { call q; }");
        fault(4, "proc m { call k; } proc k { call @q; }");
        fine("proc m { call k; } proc k { call m; }", 2);
    }

    private void firstAsItIsRead() {
        // A call of no procedure is told behind all others.
        fault(2, "proc m { call n; @; }");
        fault(1, "proc m { call n; } @?");
        fault(3, "proc m { call n; @a = 1; }");
        // What stands farther on does not count.
        fault(2, "proc m { @; ? }");
        fault(3, "var a, @a ? ;");
        fault(3, "proc m { assert @a ? }");
        fault(3, "proc m { } proc @m ? }");
        fault(1, "var a, @? a, a;");
        // A name at which a statement begins is no variable, whatever stands behind it.
        fault(3, "proc m { @skp; }");
        fault(3, "proc m { @a ? }");
        // Where a name can't stand, it need be no variable.
        fault(2, "proc m { assert 1 @a; }");
        fault(2, "proc m { skip @a; }");
    }

    private void anotherReadForgets() {
        fault(3, "proc m { @a = 1; }");
        due.is("place again", x.place(), 9);
        Due.type(x, "proc m { skip; }");
        due.is("place: not read yet", x.place(), 9);
        due.is("read", x.read(), 1);
        due.is("place: read", x.place(), StackPrograms.NONE);
        due.is("read: nothing", x.read(), -12);
        due.is("place: nothing", x.place(), 0);
        due.is("told: nothing", x.told(2, 0), 0);
    }
}
