/**
 * The sentences of part 2 and of promises 12 to 15 that name a boundary of a text, each with a test of its own: the last
 * that is taken, the first that is refused, and what the calls behind a refused one answer. A text has the mark @ just
 * before the place of its fault.
 */
final class TextBoundsTest {
    private static final int NONE = StackPrograms.NONE;
    private static final int BAD = StackPrograms.BAD;
    private static final int FULL = StackPrograms.FULL;
    private static final String[] WORDS = {"var", "proc", "if", "else", "while", "call", "assert", "assume", "return",
        "skip"};
    private static final String MARKS = "01*=;,{}()!&|";
    private static final String SIX = "proc a{}proc b{}proc c{}proc d{}proc e{}proc f{}";

    private final Due due = new Due("TextBoundsTest");

    public static void main(String[] args) {
        TextBoundsTest test = new TextBoundsTest();
        test.texts();
        test.tokens();
        test.programs();
        test.tooMany();
        test.names();
        test.orderOfFaults();
        test.answers();
        test.due.close();
    }

    private void texts() {
        newHasAnEmptyText();
        newHasNoProgram();
        bytesOfType();
        theLowestFirst();
        sixHundredBytes();
        refusedBytesDoNotCome();
        badTypesDoNothing();
        emptyBehindARead();
        emptyBehindAFault();
    }

    private void tokens() {
        blanks();
        blanksAnywhere();
        bytesThatBeginNothing();
        bytesThatBeginAName();
        bytesThatGoOnInAName();
        namesOfEightBytes();
        namesOfNineBytes();
        eachByteOfANameCounts();
        wordsAreNoNames();
        wordsBeginNames();
        numbersThatAreNone();
    }

    private void programs() {
        textWithoutProcedures();
        textEndsEarly();
        variablesAtMostOnce();
        variablesNotNone();
        statementsPerhapsNone();
        elseBelongsToIf();
        expressionsAreNotEmpty();
    }

    private void tooMany() {
        threeGlobals();
        twoLocals();
        sixProcedures();
        fortyStatements();
        fortyFirstOfEachKind();
        tenNested();
        tenNestedSideBySide();
        tenBraces();
        tenBracesSideBySide();
    }

    private void names() {
        globalToldTwice();
        localToldTwice();
        localAsAGlobal();
        procedureToldTwice();
        noVariableInAnExp();
        noVariableBeforeSet();
        proceduresAndVariablesApart();
        callOfNoProcedure();
    }

    private void orderOfFaults() {
        firstAsItIsRead();
        callsBehindAll();
        twoBeforeThree();
    }

    private void answers() {
        readAnswers();
        readOfNothing();
        readBeginsAnew();
        placeAnswers();
        toldOfTheProgram();
        toldOfStatements();
        toldWithoutAProgram();
        statementsAsTheyBegin();
        fiveHundredAndTwelveCalls();
    }

    /** A program was there, and was checked: behind the fault there is none, but its trace is still told. */
    private void fault(int number, String marked) {
        StackPrograms x = new StackPrograms();
        Due.read(x, "var g; proc m { assert g; }");
        x.check();
        int at = marked.indexOf('@');
        String text = marked.substring(0, at) + marked.substring(at + 1);
        due.is("type: " + marked, Due.type(x, text), text.length());
        due.is("read: " + marked, x.read(), -10 - number);
        due.is("place: " + marked, x.place(), at);
        for (int what = 0; what < 6; what++) {
            due.is("told: " + marked, x.told(what, 0), what < 3 ? 0 : BAD);
        }
        due.is("check: " + marked, x.check(), BAD);
        due.is("trace: " + marked, x.trace(0, 4), 0);
        due.is("type: then " + marked, x.type(32, 1), 1);
    }

    private void fine(String text, int statements) {
        StackPrograms x = new StackPrograms();
        Due.read(x, "?");
        due.is("type: " + text, Due.type(x, text), text.length());
        due.is("read: " + text, x.read(), statements);
        due.is("place: " + text, x.place(), NONE);
        due.is("told: " + text, x.told(2, 0), statements);
    }

    // ---- promises 1 and 12

    private void newHasAnEmptyText() {
        due.by("a new object: an empty text");
        StackPrograms x = new StackPrograms();
        due.is("type", x.type('p', 1), 1);
        StackPrograms y = new StackPrograms();
        due.is("read", y.read(), -12);
        due.is("place", y.place(), 0);
    }

    private void newHasNoProgram() {
        due.by("a new object: no program");
        StackPrograms x = new StackPrograms();
        for (int what = 0; what < 6; what++) {
            due.is("told", x.told(what, 0), what < 3 ? 0 : BAD);
        }
        due.is("place", x.place(), NONE);
        due.is("check", x.check(), BAD);
        due.is("trace", x.trace(0, 0), NONE);
    }

    private void bytesOfType() {
        due.by("The n (1 .. 8) lowest bytes of w .. BAD");
        StackPrograms x = new StackPrograms();
        int size = 0;
        for (int n = 1; n <= 8; n++) {
            size += n;
            due.is("type: " + n, x.type(0x2020202020202020L, n), size);
        }
        for (int n : new int[] {Integer.MIN_VALUE, -8, -1, 0, 9, 16, 64, 256, Integer.MAX_VALUE}) {
            due.is("type: " + n, x.type(0x2020202020202020L, n), BAD);
        }
        due.is("type: the refused did not come", x.type(32, 1), size + 1);
        due.is("read", x.read(), -12);
        due.is("place: at the end", x.place(), size + 1);
    }

    private void theLowestFirst() {
        due.by("The n lowest bytes of w, the lowest first, come behind THE TEXT");
        for (int n = 1; n <= 8; n++) {
            StackPrograms x = new StackPrograms();
            Due.type(x, "proc ");
            // What lies above the n lowest would be a fault, did it come.
            long w = -1L;
            for (int i = n - 1; i >= 0; i--) {
                w = w << 8 | 'a' + i;
            }
            due.is("type: " + n, x.type(w, n), 5 + n);
            Due.type(x, "{call " + "abcdefgh".substring(0, n) + ";}");
            due.is("read: " + n, x.read(), 1);
        }
    }

    private void sixHundredBytes() {
        due.by("THE TEXT has at most 600 bytes; FULL: it would have more than 600");
        StackPrograms x = new StackPrograms();
        String text = "proc m { " + " ".repeat(580) + "assert 0;}";
        due.is("type: 599", Due.type(x, text.substring(0, 599)), 599);
        due.is("type: 601", x.type(0x2020L, 2), FULL);
        due.is("type: 607", x.type(0x2020202020202020L, 8), FULL);
        due.is("type: 600", x.type(32, 1), 600);
        due.is("type: 601", x.type(32, 1), FULL);
        due.is("type: 608", x.type(0x2020202020202020L, 8), FULL);
        due.is("type: bad", x.type(32, 0), BAD);
        due.is("type: bad", x.type(32, 9), BAD);
        due.is("read: 599 bytes and a blank", x.read(), 1);
        due.is("told: its place", x.told(3, 0), 589);
        fine("proc m { " + " ".repeat(581) + "assert 0;}", 1);
        fault(2, "proc m { " + " ".repeat(581) + "assert 0; @");
        fault(1, "proc m { " + " ".repeat(582) + "assert 0@?");
        fault(1, " ".repeat(599) + "@?");
    }

    private void refusedBytesDoNotCome() {
        due.by("FULL: it would have more than 600 (so none of them comes)");
        StackPrograms x = new StackPrograms();
        Due.type(x, "proc m{" + "skip; ".repeat(20) + " ".repeat(467));
        due.is("type: 602", x.type(0x3F3F3F3F3F3F3F3FL, 8), FULL);
        due.is("type: 601", x.type(0x3F3F3F3F3F3F3FL, 7), FULL);
        due.is("type: 600", x.type(0x2020207D2020L, 6), 600);
        due.is("type: 601", x.type('?', 1), FULL);
        due.is("read", x.read(), 20);
    }

    private void badTypesDoNothing() {
        due.by("type: BAD");
        StackPrograms x = new StackPrograms();
        Due.type(x, "proc m");
        due.is("type", x.type(0x3F3FL, 0), BAD);
        due.is("type", x.type(0x3F3FL, -1), BAD);
        due.is("type", x.type(0x3F3FL, 9), BAD);
        due.is("type", Due.type(x, "{}"), 8);
        due.is("read", x.read(), 0);
        due.is("told", x.told(1, 0), 1);
    }

    private void emptyBehindARead() {
        due.by("THE TEXT, which is empty then, is the program");
        StackPrograms x = new StackPrograms();
        due.is("read", Due.read(x, "proc m { skip; }"), 1);
        due.is("type: the first byte again", x.type(32, 1), 1);
        due.is("read: that alone", x.read(), -12);
        due.is("place", x.place(), 1);
        due.is("read: nothing", x.read(), -12);
        due.is("place", x.place(), 0);
        Due.type(x, " ".repeat(600));
        x.read();
        due.is("type: room again", Due.type(x, " ".repeat(600)), 600);
    }

    private void emptyBehindAFault() {
        due.by("THE TEXT, which is empty then (also behind a fault)");
        StackPrograms x = new StackPrograms();
        due.is("read", Due.read(x, "proc m { ? " + "skip; ".repeat(90)), -11);
        due.is("type", x.type('p', 1), 1);
        due.is("read: what came behind the fault", Due.read(x, "roc m { skip; }"), 1);
        due.is("told: its place", x.told(3, 0), 9);
    }

    // ---- the text's bytes

    private void blanks() {
        due.by("BLANKS (32, 10)");
        for (int b = 0; b < 256; b++) {
            StackPrograms x = new StackPrograms();
            x.type(b, 1);
            boolean isBlank = b == 32 || b == 10;
            boolean isKnown = isBlank || (b >= 'a' && b <= 'z') || MARKS.indexOf(b) >= 0;
            due.is("read: byte " + b, Due.read(x, "proc m {}"), isBlank ? 0 : isKnown ? -12 : -11);
            due.is("place: byte " + b, x.place(), isBlank ? NONE : 0);
            due.is("told: byte " + b, x.told(1, 0), isBlank ? 1 : 0);
        }
    }

    private void blanksAnywhere() {
        due.by("BLANKS, NAMES .. and marks: blanks part names, and nothing else needs them");
        fine("var a,b;proc m{var c;a=!b&(c|*);if a{}else{}while*{}call m;assert(1);assume!0;return;skip;}", 8);
        fine("\n var a , b ; proc m { var c ; a = ! b & ( c | * ) ; if a { } else { } while * { }\n}\n ", 3);
        fault(2, "@procm {}");
        fault(2, "@pro c m{}");
        fault(2, "proc m @n{}");
        fault(3, "proc m{@skip1=1;}");
    }

    private void bytesThatBeginNothing() {
        due.by("1 a byte that begins none of these (at it)");
        for (char b : new char[] {0, 9, 11, 13, 31, '"', '\'', '+', '-', '.', '/', '2', '9', ':', '<', '>', '?', 'A', 'Z',
            '[', '_', '`', '~', 127, 128, 0x8A, 0xA0, 0xE1, 255}) {
            fault(1, "@" + b);
            fault(1, "proc m { skip; @" + b + " }");
            fault(1, "var a; proc m { a = 1@" + b + " }");
            fault(1, "proc m { } \n@" + b);
        }
    }

    private void bytesThatBeginAName() {
        due.by("NAMES (a letter a .. z, then ..)");
        for (char b = 'a'; b <= 'z'; b++) {
            fine("proc " + b + " { call " + b + "; }", 1);
        }
        fault(1, "proc @`{}");
        fault(2, "proc @{{}");
        fault(1, "proc @A{}");
        fault(1, "proc @Z{}");
        fault(2, "proc @0a{}");
        fault(2, "proc @1a{}");
        fault(1, "proc @2a{}");
        fault(1, "proc @9a{}");
    }

    private void bytesThatGoOnInAName() {
        due.by("NAMES (.. then letters and digits ..)");
        for (char b = 0; b < 256; b++) {
            boolean goesOn = (b >= 'a' && b <= 'z') || (b >= '0' && b <= '9');
            if (goesOn) {
                fine("proc m" + b + " { call m" + b + "; }", 1);
            } else if (b != 32 && b != 10 && b != '{') {
                fault(MARKS.indexOf(b) >= 0 ? 2 : 1, "proc m@" + b + "{}");
            }
        }
    }

    private void namesOfEightBytes() {
        due.by("NAMES .. 8 bytes at most");
        fine("var abcdefgh, z2345678; proc abcdefgh { var zzzzzzzz; zzzzzzzz = abcdefgh | z2345678; call abcdefgh; }", 2);
        fine("proc a0000000{}proc a1111111{call a0000000;}", 1);
    }

    private void namesOfNineBytes() {
        due.by("a name of more than 8 bytes (at it)");
        for (String name : new String[] {"abcdefghi", "a12345678", "zzzzzzzzzz", "a".repeat(500), "skipskips", "variables"}) {
            fault(1, "@" + name);
            fault(1, "var @" + name + "; proc m {}");
            fault(1, "proc @" + name + " {}");
            fault(1, "proc m { var @" + name + "; }");
            fault(1, "proc m { @" + name + " = 1; }");
            fault(1, "proc m { assert @" + name + "; }");
            fault(1, "proc m { call @" + name + "; }");
            fault(1, "proc m { skip @" + name + "; }");
            fault(1, "proc m { } @" + name);
        }
    }

    private void eachByteOfANameCounts() {
        due.by("NAMES .. 8 bytes at most (each of them counts)");
        for (int i = 0; i < 8; i++) {
            String other = "aaaaaaaa".substring(0, i) + "b" + "aaaaaaaa".substring(i + 1);
            fine("var aaaaaaaa, " + other + "; proc m {}", 0);
            fault(3, "var aaaaaaaa; proc m { @" + other + " = 1; }");
            fault(4, "proc aaaaaaaa { call @" + other + "; }");
        }
        for (int i = 1; i < 8; i++) {
            fine("var aaaaaaaa, " + "aaaaaaaa".substring(0, i) + "; proc m {}", 0);
        }
        fine("var a, a0; proc m {}", 0);
    }

    private void wordsAreNoNames() {
        due.by("NAMES .. not the words var proc if else while call assert assume return skip");
        for (String word : WORDS) {
            fault(2, "var @" + word + "; proc m {}");
            fault(2, "var a, @" + word + "; proc m {}");
            fault(2, "proc @" + word + " {}");
            fault(2, "proc m { var @" + word + "; }");
            fault(2, "proc m { assert @" + word + "; }");
            fault(2, "proc m { call @" + word + "; }");
        }
    }

    private void wordsBeginNames() {
        due.by("NAMES .. not the words (but what is longer, or shorter)");
        for (String word : WORDS) {
            String shorter = word.substring(0, word.length() - 1);
            fine("var " + word + "0, " + word + "s, " + shorter + "; proc m { " + word + "0 = " + word + "s; }", 1);
            fine("proc x" + word + " { call x" + word + "; }", 1);
        }
    }

    private void numbersThatAreNone() {
        due.by("0 1 * = ; , { } ( ) ! & | (each is one by itself)");
        fault(2, "proc m { assert 0@0; }");
        fault(2, "proc m { assert 1@0; }");
        fault(2, "proc m { assert *@*; }");
        fault(1, "proc m { assert @2; }");
        fault(2, "var a; proc m { assert 1@a; }");
        fault(2, "var a; proc m { a =@= 1; }");
        fault(2, "proc m { assert 1 &@& 1; }");
        fault(2, "proc m { assert 1 |@| 1; }");
        fault(2, "proc m { skip;@; }");
        fault(2, "var a,@, b; proc m { }");
        for (char mark : MARKS.toCharArray()) {
            fault(2, "@" + mark);
            fault(2, "proc m { } @" + mark);
        }
    }

    // ---- the grammar

    private void textWithoutProcedures() {
        due.by("PROCEDURES, one to six (none)");
        fault(2, "@");
        fault(2, " \n @");
        fault(2, "var a; @");
        fault(2, "var a, b, c;\n@");
        fine("proc a{}", 0);
    }

    private void textEndsEarly() {
        due.by("2 what can't stand there, the text's end too (at it)");
        String[] tokens = ("var a , b ; proc m { var c ; a = ! b & ( c | * ) ; if a { skip ; } else { return ; } while 1 {"
            + " call m ; } assert 0 ; assume 1 ; } proc n { }").split(" ");
        String text = "";
        for (int i = 0; i < tokens.length; i++) {
            text += tokens[i];
            boolean isWhole = i == tokens.length - 1 || (tokens[i].equals("}") && tokens[i + 1].equals("proc"));
            if (isWhole) {
                fine(text, 8);
            } else {
                fault(2, text + "@");
                fault(2, text + " \n  @");
            }
            text += " ";
        }
    }

    private void variablesAtMostOnce() {
        due.by("perhaps var NAME , .. ; then");
        fine("proc m { }", 0);
        fine("var a; proc m { var b; }", 0);
        fault(2, "var a; @var b; proc m { }");
        fault(2, "proc m { var a; @var b; }");
        fault(2, "proc m { skip; @var b; }");
        fault(2, "proc m { } @var b;");
        fault(2, "proc m { if 1 { @var b; } }");
    }

    private void variablesNotNone() {
        due.by("var NAME , .. ; (one name at least)");
        fault(2, "var @; proc m { }");
        fault(2, "proc m { var @; }");
        fault(2, "var a, @; proc m { }");
        fault(2, "proc m { var a, @; }");
        fault(2, "var a @b; proc m { }");
        fault(2, "var a @proc m { }");
        fault(2, "proc m { var a @}");
    }

    private void statementsPerhapsNone() {
        due.by("STATEMENTS, none perhaps");
        fine("proc m{}", 0);
        fine("proc m{var a;}", 0);
        fine("proc m{if 1{}}", 1);
        fine("proc m{if 1{}else{}}", 1);
        fine("proc m{while 1{}}", 1);
        fine("proc m{}proc n{}", 0);
    }

    private void elseBelongsToIf() {
        due.by("if EXP { STATEMENTS } else { STATEMENTS }");
        fine("proc m{if 1{}else{}}", 1);
        fault(2, "proc m{@else{}}");
        fault(2, "proc m{if 1{}else{}@else{}}");
        fault(2, "proc m{while 1{}@else{}}");
        fault(2, "proc m{if 1{}skip;@else{}}");
        fault(2, "proc m{if 1{}else @if 1{}}");
        fault(2, "proc m{if 1{}else @skip;}");
    }

    private void expressionsAreNotEmpty() {
        due.by("EXP: TERMS with | between. TERM: FACTORS with & between. FACTOR: ..");
        for (String before : new String[] {"assert ", "assume ", "a = ", "if ", "while ", "assert (", "assert !", "assert 1 & ",
            "assert 1 | ", "a = !("}) {
            for (String wrong : new String[] {";", "{", "}", ")", "&", "|", "=", ",", "skip", "proc", ""}) {
                fault(2, "var a; proc m { " + before + "@" + wrong);
            }
        }
    }

    // ---- fault 3: too many

    private void threeGlobals() {
        due.by("GLOBAL (three at most); a fourth global one (at its NAME)");
        fine("var a,b,c;proc m{a=b&c;}", 1);
        fault(3, "var a,b,c,@d;proc m{}");
        fault(3, "var a,b,c, \n@d,e;proc m{}");
        fault(2, "var a,b,c @d;proc m{}");
        fault(2, "var a,b,c,@;proc m{}");
        StackPrograms x = new StackPrograms();
        String[] some = {"", "var a;", "var a,b;", "var a,b,c;"};
        for (int count = 0; count <= 3; count++) {
            due.is("read", Due.read(x, some[count] + "proc m{}"), 0);
            due.is("told: " + count, x.told(0, 0), count);
        }
    }

    private void twoLocals() {
        due.by("LOCAL (two at most); a third local one (at its NAME)");
        fine("var a,b,c;proc m{var d,e;d=e;}", 1);
        fault(3, "proc m{var d,e,@f;}");
        fault(3, "proc m{var d;}proc n{var a,b, @c;}");
        fault(2, "proc m{var d,e,@;}");
        fine("proc m{var d,e;}proc n{var d,e;}proc o{var e,d;}proc p{var d,f;}proc q{}proc r{var d,e;d=e;}", 1);
    }

    private void sixProcedures() {
        due.by("PROCEDURES, one to six; a seventh procedure (at its NAME)");
        fine(SIX, 0);
        fault(3, SIX + "proc @g{}");
        fault(3, SIX + " proc\n @g { skip; }");
        fault(3, SIX + "proc @a{}");
        fault(2, SIX + "@g{}");
        fault(2, SIX + "proc @{}");
        fault(2, SIX + "proc @skip{}");
        StackPrograms x = new StackPrograms();
        for (int count = 1; count <= 6; count++) {
            due.is("read", Due.read(x, SIX.substring(0, 8 * count)), 0);
            due.is("told: " + count, x.told(1, 0), count);
        }
    }

    private void fortyStatements() {
        due.by("STATEMENTS (40 at most); a 41st statement (at its first byte)");
        fine("proc m{" + "skip;".repeat(39) + "}", 39);
        fine("proc m{" + "skip;".repeat(40) + "}", 40);
        fault(3, "proc m{" + "skip;".repeat(40) + "@skip;}");
        fault(3, "proc m{" + "skip;".repeat(40) + " \n@skip;skip;}");
        fine("proc m{" + "skip;".repeat(40) + "}proc n{}", 40);
        fault(3, "proc m{" + "skip;".repeat(40) + "}proc n{@skip;}");
        fault(3, "proc m{" + "skip;".repeat(39) + "if 1{@skip;}}");
        fault(3, "proc m{" + "skip;".repeat(39) + "if 1{}else{@skip;}}");
        fine("proc m{" + "skip;".repeat(39) + "while 1{}}", 40);
        fault(3, "proc m{" + "while*{}".repeat(40) + "@while*{}}");
        fine("proc m{" + "if*{skip;}".repeat(20) + "}", 40);
        fault(3, "proc m{" + "if*{skip;}".repeat(20) + "@if*{skip;}}");
    }

    private void fortyFirstOfEachKind() {
        due.by("a 41st statement (at its first byte): each kind");
        String forty = "var a;proc m{" + "skip;".repeat(40);
        for (String more : new String[] {"a=1;", "if 1{}", "while 1{}", "call m;", "assert 1;", "assume 1;", "return;",
            "skip;", "b=1;", "call n;", "assert b;"}) {
            fault(3, forty + "@" + more + "}");
        }
        String[] last = {"a=1;", "if 1{}", "while 1{}", "call m;", "assert 1;", "assume 1;", "return;", "skip;"};
        for (int kind = 0; kind < 8; kind++) {
            StackPrograms x = new StackPrograms();
            due.is("read", Due.read(x, "var a;proc m{" + "skip;".repeat(39) + last[kind] + "}"), 40);
            due.is("told: the 40th", x.told(5, 39), kind);
            due.is("told: its place", x.told(3, 39), 13 + 39 * 5);
            due.is("told: no 41st", x.told(5, 40), BAD);
        }
    }

    private void tenNested() {
        due.by("an eleventh ( or ! that lies in ten others (at it)");
        for (int nots = 0; nots <= 10; nots++) {
            String before = "!".repeat(nots) + "(".repeat(10 - nots);
            String behind = ")".repeat(10 - nots);
            fine("proc m{assert " + before + "1" + behind + ";}", 1);
            fault(3, "proc m{assert " + before + "@!1" + behind + ";}");
            fault(3, "proc m{assert " + before + "@(1)" + behind + ";}");
            fault(2, "proc m{assert " + before + "@)" + behind + ";}");
        }
        for (String of : new String[] {"a=", "if ", "while ", "assert ", "assume "}) {
            String ten = "var a;proc m{" + of + "(!(!(!(!(!";
            fault(3, ten + "@!1)))));}");
            fault(3, ten + "@(1))))));}");
        }
    }

    private void tenNestedSideBySide() {
        due.by("an eleventh ( or ! that lies in ten others: those that are closed do not count");
        fine("proc m{assert " + "(1)&".repeat(30) + "1;}", 1);
        fine("proc m{assert " + "!1|".repeat(30) + "1;}", 1);
        fine("proc m{assert !!!!!!!!!!1&!!!!!!!!!!1|!!!!!!!!!!1;}", 1);
        fine("proc m{assert ((((((((((1))))))))))&((((((((((1))))))))));assert !!!!!!!!!!0;}", 2);
        fine("proc m{assert (((((((((!1|!1&(1)|!1)))))))));}", 1);
        fault(3, "proc m{assert (((((((((!1|!1&(@!1)|!1)))))))));}");
        fault(3, "proc m{assert (((((((((!1|!@(1)|!1)))))))));}");
    }

    private void tenBraces() {
        due.by("an eleventh { that is open (at it)");
        for (String of : new String[] {"if 1{", "while 1{", "if 1{}else{"}) {
            String nine = "proc m{" + of.repeat(9);
            fine(nine + "}".repeat(10), 9);
            fault(3, nine + "if 1@{}" + "}".repeat(10));
            fault(3, nine + "while 1@{}" + "}".repeat(10));
            fault(3, nine + "skip;if 1 \n@{}" + "}".repeat(10));
            fault(2, nine + "if 1@}" + "}".repeat(10));
            fault(2, nine + "@{}" + "}".repeat(10));
        }
        fine("proc m{" + "if 1{".repeat(8) + "if 1{}else{}" + "}".repeat(9), 9);
        fine("proc m{" + "if 1{".repeat(9) + "skip;" + "}".repeat(10), 10);
    }

    private void tenBracesSideBySide() {
        due.by("an eleventh { that is open: those that are closed do not count");
        fine("proc m{" + "if 1{}else{}".repeat(20) + "}", 20);
        fine(SIX.replace("{}", "{if 1{if 1{}}}"), 12);
        fine("proc m{" + "if 1{".repeat(9) + "}".repeat(9) + "if 1{".repeat(9) + "}".repeat(10), 18);
        fine("proc m{" + "if 1{".repeat(9) + "}".repeat(10) + "proc n{" + "if 1{".repeat(9) + "}".repeat(10), 18);
    }

    // ---- fault 3: names

    private void globalToldTwice() {
        due.by("3 a NAME that is told twice (a variable that is .. a global one)");
        fault(3, "var a,@a;proc m{}");
        fault(3, "var a,b,@a;proc m{}");
        fault(3, "var a,b,@b;proc m{}");
        fault(3, "var a,b,c,@c;proc m{}");
    }

    private void localToldTwice() {
        due.by("3 a NAME that is told twice (a variable that is one of the same procedure already)");
        fault(3, "proc m{var a,@a;}");
        fault(3, "proc m{var a,b,@a;}");
        fault(3, "proc m{var a;}proc n{var b,@b;}");
        fine("proc m{var a,b;}proc n{var b,a;}", 0);
    }

    private void localAsAGlobal() {
        due.by("a local one has no name of a global one");
        fault(3, "var a;proc m{var @a;}");
        fault(3, "var a,b,c;proc m{var d,@c;}");
        fault(3, "var a;proc m{}proc n{var b,@a;}");
        fine("var a;proc m{var aa;}", 0);
    }

    private void procedureToldTwice() {
        due.by("3 a NAME that is told twice (a procedure among procedures)");
        fault(3, "proc a{}proc @a{}");
        fault(3, "proc a{}proc b{}proc c{}proc d{}proc e{}proc @e{}");
        fault(3, "proc a{}proc b{}proc c{}proc d{}proc e{}proc @a{}");
        fine("proc a{}proc aa{}", 0);
    }

    private void noVariableInAnExp() {
        due.by("a NAME in an EXP .. that is no variable of the procedure and no global one (at it)");
        fault(3, "proc m{assert @a;}");
        fault(3, "proc m{if @m{}}");
        fault(3, "proc m{while 1&!(0|@a){}}");
        fault(3, "var b;proc m{b=b|@a;}");
        fault(3, "proc m{var a;}proc n{assume @a;}");
        fault(3, "proc m{assume @a;}proc n{var a;}");
        fine("var a;proc m{var b;assert a|b;}proc n{var c;assert a&c;}", 2);
    }

    private void noVariableBeforeSet() {
        due.by("a NAME .. before = that is no variable of the procedure and no global one (at it)");
        fault(3, "proc m{@a=1;}");
        fault(3, "proc m{@m=1;}");
        fault(3, "var b;proc m{@a=b;}");
        fault(3, "proc m{var a;a=1;}proc n{@a=1;}");
        fault(3, "proc m{if 1{@a=1;}}proc n{var a;}");
        fine("var a;proc m{var b;a=1;b=1;}proc n{var c;a=1;c=1;}", 4);
    }

    private void proceduresAndVariablesApart() {
        due.by("Procedures and variables have names apart: one name may be both");
        fine("var m;proc m{m=m;call m;}", 2);
        fine("proc m{var m;m=1;call m;}", 2);
        fine("proc m{var n;n=1;call n;}proc n{var m;m=1;call m;}", 4);
        fine("var a,b,c;proc a{}proc b{}proc c{}", 0);
        fault(4, "var a;proc m{a=1;call @a;}");
        fault(3, "proc m{}proc n{assert @m;}");
    }

    private void callOfNoProcedure() {
        due.by("4 behind all: call of what is no procedure (at the NAME, the first such)");
        fault(4, "proc m{call @n;}");
        fault(4, "proc m{call  \n@n ;}");
        fault(4, "proc m{call m;call @n;call o;}");
        fault(4, "proc m{call k;}proc k{if 1{call @n;}call o;}");
        fault(4, "proc m{" + "call m;".repeat(39) + "call @n;}");
        fine("proc m{call n;}proc n{call m;}", 2);
        fine("proc m{call r;}proc n{}proc o{}proc p{}proc q{}proc r{call m;}", 2);
    }

    // ---- the order of faults

    private void firstAsItIsRead() {
        due.by("FAULTS, the first as it is read");
        fault(1, "@? proc { a = ?");
        fault(2, "proc @{ a = ?");
        fault(3, "proc m { @a = ; ?");
        fault(3, "var a, @a, ? ; proc");
        fault(3, "proc m { assert @a ? }");
        fault(2, "proc m { assert @; a ? }");
        fault(1, "proc m { assert @? a ; }");
        fault(3, "proc m{" + "skip;".repeat(40) + "@skip?}");
        fault(3, "proc m{assert !!!!!!!!!!@!?;}");
        fault(3, "proc m{" + "if 1{".repeat(9) + "if 1@{?}");
        fault(3, "var a,b,c,@d?");
        fault(3, SIX + "proc @g?");
    }

    private void callsBehindAll() {
        due.by("4 behind all");
        fault(1, "proc m { call n; } @?");
        fault(2, "proc m { call n; @");
        fault(2, "proc m { call n; } @}");
        fault(3, "proc m { call n; } proc o { @a = 1; }");
        fault(3, "proc m { call n; } proc @m { }");
        fault(3, "proc m { call n;" + "skip;".repeat(39) + "@skip;}");
    }

    private void twoBeforeThree() {
        due.by("Of one place 2 comes before 3");
        String forty = "var a;proc m{" + "skip;".repeat(40);
        for (String wrong : new String[] {";", "0", "1", "*", "=", ",", "{", "(", ")", "!", "&", "|", "else", "var", "proc", ""}) {
            fault(2, forty + "@" + wrong);
        }
        fault(2, "var a,b,c,@var;proc m{}");
        fault(2, "proc m{var a,b,@0;}");
        fault(2, SIX + "proc @proc{}");
        fault(2, "proc m{assert !!!!!!!!!!1@!1;}");
        fault(2, "proc m{assert !!!!!!!!!!1@(1);}");
        fault(2, "proc m{assert 1 @b;}");
        fault(2, "proc m{" + "if 1{".repeat(9) + "skip@{}");
        fault(2, "proc m{skip @b;}");
        fault(2, "@b=1;");
        fault(2, "proc m{}@m{}");
    }

    // ---- promises 13 to 15

    private void readAnswers() {
        due.by("how many statements; -10 less its FAULT (1 .. 4): then there is no program any more");
        StackPrograms x = new StackPrograms();
        String[] faulty = {"?", "proc m {", "proc m { a = 1; }", "proc m { call n; }"};
        for (int i = 0; i < 4; i++) {
            due.is("read: a program", Due.read(x, "var a; proc m { a = 1; } proc n { }"), 1);
            due.is("check: a program", x.check(), NONE);
            due.is("read: a fault", Due.read(x, faulty[i]), -11 - i);
            due.is("check: no program any more", x.check(), BAD);
            due.is("told: no globals", x.told(0, 0), 0);
            due.is("told: no procedures", x.told(1, 0), 0);
            due.is("told: no statements", x.told(2, 0), 0);
            due.is("told: no statement", x.told(3, 0), BAD);
        }
        due.is("read: none", Due.read(x, "proc m { }"), 0);
        due.is("check: a program of no statements", x.check(), NONE);
        due.is("read: all", Due.read(x, "proc m { " + "skip; ".repeat(40) + "}"), 40);
        due.is("read: one", Due.read(x, "proc m { skip; }"), 1);
        due.is("told: none of the others", x.told(3, 1), BAD);
    }

    private void readOfNothing() {
        due.by("read: an empty text is no program");
        StackPrograms x = new StackPrograms();
        due.is("read", Due.read(x, "proc m { skip; }"), 1);
        due.is("read: nothing typed", x.read(), -12);
        due.is("place", x.place(), 0);
        due.is("check", x.check(), BAD);
        due.is("told", x.told(1, 0), 0);
    }

    private void readBeginsAnew() {
        due.by("THE TEXT .. is the program (and nothing of the one before)");
        StackPrograms x = new StackPrograms();
        due.is("read", Due.read(x, "var a, b, c; proc m { var d, e; } proc n { var d, e; }"), 0);
        due.is("read: what was local is global", Due.read(x, "var d, e; proc n { var a, b; a = d; }"), 1);
        due.is("read: what was global is none", Due.read(x, "proc m { c = 1; }"), -13);
        due.is("read: what was local is none", Due.read(x, "proc m { assert a; }"), -13);
        due.is("read: what was a procedure is none", Due.read(x, "proc m { call n; }"), -14);
        due.is("read: what was a procedure is none", Due.read(x, "proc n { call m; }"), -14);
        due.is("read: behind the faults", Due.read(x, "var d; proc m { var c; c = d; call m; }"), 2);
        due.is("told: globals", x.told(0, 0), 1);
        due.is("told: procedures", x.told(1, 0), 1);
    }

    private void placeAnswers() {
        due.by("The place of the FAULT of the latest read(); NONE");
        StackPrograms x = new StackPrograms();
        due.is("place: nothing read", x.place(), NONE);
        Due.type(x, "proc m { ?");
        due.is("place: typed only", x.place(), NONE);
        x.read();
        due.is("place: a fault", x.place(), 9);
        due.is("place: once more", x.place(), 9);
        Due.type(x, "proc m { }");
        x.type(0, 0);
        due.is("place: typed only", x.place(), 9);
        x.read();
        due.is("place: no fault", x.place(), NONE);
        Due.read(x, "?");
        due.is("place: the first byte", x.place(), 0);
        Due.read(x, " ".repeat(599) + "?");
        due.is("place: the last byte", x.place(), 599);
        Due.read(x, " ".repeat(600));
        due.is("place: the end", x.place(), 600);
        x.check();
        x.clear();
        due.is("place: other calls do nothing", x.place(), 600);
    }

    private void toldOfTheProgram() {
        due.by("Of the program: what = 0 globals, 1 procedures, 2 statements. BAD: none such");
        StackPrograms x = new StackPrograms();
        Due.read(x, "var a, b, c; proc m { var d, e; skip; skip; skip; skip; } proc n { skip; }");
        for (int k : new int[] {Integer.MIN_VALUE, -1, 0, 4, 5, 40, Integer.MAX_VALUE}) {
            due.is("told: globals", x.told(0, k), 3);
            due.is("told: procedures", x.told(1, k), 2);
            due.is("told: statements", x.told(2, k), 5);
        }
        for (int what : new int[] {Integer.MIN_VALUE, -3, -2, -1, 6, 7, 256, Integer.MAX_VALUE}) {
            for (int k : new int[] {-1, 0, 4, 5}) {
                due.is("told: what " + what, x.told(what, k), BAD);
            }
        }
    }

    private void toldOfStatements() {
        due.by("Of statement k: 3 its place in the text, 4 its procedure, 5 what it is. BAD: none such");
        StackPrograms x = new StackPrograms();
        String text = "var a;proc m{a=1;if a{}while a{}call n;}proc n{assert 1;assume 1;return;skip;}";
        String[] begins = {"a=1", "if a", "while", "call", "assert", "assume", "return", "skip"};
        due.is("read", Due.read(x, text), 8);
        for (int k = 0; k < 8; k++) {
            due.is("told: place", x.told(3, k), text.indexOf(begins[k]));
            due.is("told: procedure", x.told(4, k), k / 4);
            due.is("told: what it is", x.told(5, k), k);
        }
        for (int what = 3; what <= 5; what++) {
            for (int k : new int[] {Integer.MIN_VALUE, -1, 8, 9, 40, 256, Integer.MAX_VALUE}) {
                due.is("told: k " + k, x.told(what, k), BAD);
            }
        }
        Due.read(x, SIX.replace("f{}", "f{skip;}"));
        due.is("told: the last procedure", x.told(4, 0), 5);
        Due.read(x, "proc m{" + " ".repeat(587) + "skip;}");
        due.is("told: the last place", x.told(3, 0), 594);
    }

    private void toldWithoutAProgram() {
        due.by("(0 without one)");
        StackPrograms x = new StackPrograms();
        for (int turn = 0; turn < 2; turn++) {
            for (int what = 0; what <= 2; what++) {
                for (int k : new int[] {Integer.MIN_VALUE, -1, 0, 1, Integer.MAX_VALUE}) {
                    due.is("told", x.told(what, k), 0);
                }
            }
            for (int what = 3; what <= 5; what++) {
                due.is("told: of no statement", x.told(what, 0), BAD);
            }
            Due.read(x, "var a; proc m { a = 1; } proc n { skip; } }");
        }
    }

    private void statementsAsTheyBegin() {
        due.by("STATEMENTS are numbered as they begin in the text, from 0 on");
        StackPrograms x = new StackPrograms();
        Due.read(x, "proc m { while 1 { if 1 { skip; } else { return; } call n; } assert 1; } proc n { assume 1; }");
        int[] kinds = {2, 1, 7, 6, 3, 4, 5};
        for (int k = 0; k < kinds.length; k++) {
            due.is("told: " + k, x.told(5, k), kinds[k]);
            due.is("told: " + k, x.told(4, k), k == 6 ? 1 : 0);
        }
    }

    private void fiveHundredAndTwelveCalls() {
        due.by("An object is used for at most 512 calls (each text of its own)");
        StackPrograms x = new StackPrograms();
        // 8 calls a turn.
        for (int turn = 0; turn < 64; turn++) {
            boolean isFine = turn % 2 == 1;
            String text = "proc m { assert " + (isFine ? "0" : "a") + "; } ";
            for (int at = 0; at < 20; at += 8) {
                long w = 0;
                for (int i = Math.min(8, 20 - at) - 1; i >= 0; i--) {
                    w = w << 8 | text.charAt(at + i);
                }
                due.is("type", x.type(w, Math.min(8, 20 - at)), Math.min(at + 8, 20));
            }
            due.is("read", x.read(), isFine ? 1 : -13);
            due.is("place", x.place(), isFine ? NONE : 16);
            due.is("told", x.told(5, 0), isFine ? 4 : BAD);
            due.is("check", x.check(), isFine ? 1 : BAD);
            due.is("trace", x.trace(0, 0), turn == 0 ? NONE : 0);
        }
    }
}
