import java.util.Random;

/**
 * No call throws or fails to end, for any arguments in any state, and the same calls give the same answers: that holds
 * also behind the 512th call, so a run here may have some more.
 */
final class AnyCallsTest {
    private static final int[] NUMBERS = {Integer.MIN_VALUE, -1, 0, 1, 2, 3, 4, 5, 6, 7, 8, 9, 11, 12, 15, 16, 47, 48,
        600, 1999, 2000, Integer.MAX_VALUE};
    private static final String[] TOKENS = {"var ", "proc ", "if ", "else ", "while ", "call ", "assert ", "assume ",
        "return ", "skip ", "a ", "b ", "m ", "0 ", "1 ", "* ", "= ", "; ", ", ", "{ ", "} ", "( ", ") ", "! ", "& ", "| ",
        "proc m { ", "skip; ", "call m; ", "a = *; ", "var a; ", "if * { ", "} else { ", "while a { ", "abcdefghi "};

    private final Due due = new Due("AnyCallsTest");
    private final Random random = new Random(512);

    public static void main(String[] args) {
        AnyCallsTest test = new AnyCallsTest();
        for (int i = 0; i < 600; i++) {
            test.oneRun();
        }
        test.due.close();
    }

    private void oneRun() {
        StackPrograms x = new StackPrograms();
        StackPrograms y = new StackPrograms();
        for (int i = 0; i < 512; i++) {
            int kind = random.nextInt(20);
            long seed = random.nextLong();
            int got = call(x, kind, new Random(seed));
            due.is("the same call again: " + kind, call(y, kind, new Random(seed)), got);
            due.holds("an answer: " + got, got >= -14 && got <= 1000000);
        }
    }

    private static int number(Random r, int below) {
        return r.nextInt(12) == 0 ? NUMBERS[r.nextInt(NUMBERS.length)] : r.nextInt(below);
    }

    private static int call(StackPrograms x, int kind, Random r) {
        switch (kind) {
            case 0:
            case 1:
            case 2:
                return x.rule(number(r, 3), number(r, 4), number(r, 3), number(r, 3), number(r, 4), number(r, 4));
            case 3:
                return x.arc(number(r, 10), number(r, 4), 8 + number(r, 3));
            case 4:
                return x.end(number(r, 16), number(r, 2));
            case 5:
                return r.nextInt(20) == 0 ? x.clear() : x.lies(number(r, 8));
            case 6:
            case 7:
                return x.push(number(r, 4));
            case 8:
                return r.nextInt(3) == 0 ? x.drop() : x.far(number(r, 3));
            case 9:
                return x.far(number(r, 3));
            case 10:
                return x.way(number(r, 3), number(r, 10));
            case 11:
                return x.after(number(r, 3));
            case 12:
            case 13:
                return r.nextInt(8) == 0 ? x.type(r.nextLong(), number(r, 10)) : Due.type(x, TOKENS[r.nextInt(TOKENS.length)]);
            case 14:
                return r.nextInt(4) == 0 ? x.read() : Due.read(x, "proc m { call m; assert *; } ");
            case 15:
                return x.place();
            case 16:
                return x.told(number(r, 6), number(r, 40));
            case 17:
                return x.check();
            default:
                return x.trace(number(r, 5), number(r, 5));
        }
    }
}
