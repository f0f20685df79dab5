import java.util.Random;

/** Promises 9 and 10 in large systems: each step of a way comes one nearer, and no rule before it would. */
final class SystemWalkTest {
    private final Due due = new Due("SystemWalkTest");
    private final Random random = new Random(715);
    private final int[][] rules = new int[48][];
    private int long40;

    public static void main(String[] args) {
        SystemWalkTest test = new SystemWalkTest();
        for (int i = 0; i < 400; i++) {
            test.oneSystem(i % 2 == 0 ? 8 : 2, i % 3 == 0 ? 12 : 5);
        }
        test.due.holds("enough long ways: " + test.long40, test.long40 > 20);
        test.due.close();
    }

    /** Two objects of the same system: one tells the way, the other how far each of its stacks is. */
    private void oneSystem(int states, int signs) {
        StackPrograms x = new StackPrograms();
        StackPrograms y = new StackPrograms();
        for (int r = 0; r < 48; r++) {
            int n = random.nextInt(100);
            rules[r] = new int[] {random.nextInt(states), random.nextInt(signs), random.nextInt(states),
                n < 45 ? 2 : n < 80 ? 1 : 0, random.nextInt(signs), random.nextInt(signs)};
            int[] a = rules[r];
            x.rule(a[0], a[1], a[2], a[3], a[4], a[5]);
            y.rule(a[0], a[1], a[2], a[3], a[4], a[5]);
        }
        int end = random.nextInt(states);
        x.end(end, 1);
        y.end(end, 1);
        int n = 1 + random.nextInt(30);
        StringBuilder stack = new StringBuilder();
        for (int i = 0; i < n; i++) {
            int sign = random.nextInt(signs);
            x.push(sign);
            stack.insert(0, (char) sign);
        }
        for (int state = 0; state < states; state++) {
            int far = x.far(state);
            if (far >= 0 && far <= 2000) {
                walk(x, y, state, stack.toString(), far);
            }
        }
    }

    private void walk(StackPrograms x, StackPrograms y, int from, String word, int far) {
        long40 += far > 40 ? 1 : 0;
        int state = from;
        String stack = word;
        for (int k = 0; k < far; k++) {
            int r = x.way(from, k);
            due.holds("a rule", r >= 0 && r < 48);
            for (int s = 0; s <= r; s++) {
                String to = apply(s, state, stack);
                if (to == null || to.length() > 30) {
                    due.holds("a rule that can be used", s < r || to != null);
                    continue;
                }
                int left = far(y, rules[s][2], to);
                due.holds("no lesser rule is as good", (left == far - k - 1) == (s == r));
            }
            stack = apply(r, state, stack);
            state = rules[r][2];
            if (stack == null) {
                return;
            }
        }
        due.is("the last lies in the set", far(y, state, stack), 0);
        due.is("no more", x.way(from, far), StackPrograms.NONE);
    }

    private String apply(int r, int state, String stack) {
        int[] a = rules[r];
        if (stack.isEmpty() || a[0] != state || a[1] != stack.charAt(0)) {
            return null;
        }
        String in = a[3] == 0 ? "" : a[3] == 1 ? "" + (char) a[4] : "" + (char) a[4] + (char) a[5];
        return in + stack.substring(1);
    }

    private static int far(StackPrograms y, int state, String stack) {
        y.drop();
        for (int i = stack.length() - 1; i >= 0; i--) {
            y.push(stack.charAt(i));
        }
        return y.far(state);
    }
}
