import java.util.Random;

/** Promises 9 and 10 in large systems: each step of a way comes one nearer, and no rule before it would. */
final class SystemWalkTest {
    private final Due due = new Due("SystemWalkTest");
    private final Random random = new Random(715);
    private final int[][] rules = new int[48][];
    private int end;
    private int long40;
    // One object tells the way, the other how far each of its stacks is; each is made anew before its 512th call.
    private StackPrograms teller;
    private int tellerCalls;
    private StackPrograms measure;
    private int measureCalls;

    public static void main(String[] args) {
        SystemWalkTest test = new SystemWalkTest();
        for (int i = 0; i < 400; i++) {
            test.oneSystem(i % 2 == 0 ? 8 : 2, i % 3 == 0 ? 12 : 5);
        }
        test.due.holds("enough long ways: " + test.long40, test.long40 > 20);
        test.due.close();
    }

    private StackPrograms make() {
        StackPrograms x = new StackPrograms();
        for (int[] a : rules) {
            x.rule(a[0], a[1], a[2], a[3], a[4], a[5]);
        }
        x.end(end, 1);
        return x;
    }

    private void oneSystem(int states, int signs) {
        for (int r = 0; r < 48; r++) {
            int n = random.nextInt(100);
            rules[r] = new int[] {random.nextInt(states), random.nextInt(signs), random.nextInt(states),
                n < 45 ? 2 : n < 80 ? 1 : 0, random.nextInt(signs), random.nextInt(signs)};
        }
        end = random.nextInt(states);
        teller = null;
        measure = null;
        int n = 1 + random.nextInt(30);
        StringBuilder stack = new StringBuilder();
        for (int i = 0; i < n; i++) {
            stack.append((char) random.nextInt(signs));
        }
        for (int state = 0; state < states; state++) {
            int far = far(state, stack.toString());
            if (far >= 0 && far <= 2000) {
                walk(state, stack.toString(), far);
            }
        }
    }

    private void walk(int from, String word, int far) {
        long40 += far > 40 ? 1 : 0;
        int state = from;
        String stack = word;
        for (int k = 0; k < far; k++) {
            int r = way(from, word, k);
            due.holds("a rule", r >= 0 && r < 48);
            for (int s = 0; s <= r; s++) {
                String to = apply(s, state, stack);
                if (to == null || to.length() > 30) {
                    due.holds("a rule that can be used", s < r || to != null);
                    continue;
                }
                int left = far(rules[s][2], to);
                due.holds("no lesser rule is as good", (left == far - k - 1) == (s == r));
            }
            stack = apply(r, state, stack);
            state = rules[r][2];
            if (stack == null) {
                return;
            }
        }
        due.is("the last lies in the set", far(state, stack), 0);
        due.is("no more", way(from, word, far), StackPrograms.NONE);
    }

    private String apply(int r, int state, String stack) {
        int[] a = rules[r];
        if (stack.isEmpty() || a[0] != state || a[1] != stack.charAt(0)) {
            return null;
        }
        String in = a[3] == 0 ? "" : a[3] == 1 ? "" + (char) a[4] : "" + (char) a[4] + (char) a[5];
        return in + stack.substring(1);
    }

    private static void setWord(StackPrograms x, String stack) {
        x.drop();
        for (int i = stack.length() - 1; i >= 0; i--) {
            x.push(stack.charAt(i));
        }
    }

    /** The word is the same for all ways of a system. */
    private int way(int from, String word, int k) {
        if (teller == null || tellerCalls > 500) {
            teller = make();
            setWord(teller, word);
            tellerCalls = 80;
        }
        tellerCalls++;
        return teller.way(from, k);
    }

    private int far(int state, String stack) {
        if (measure == null || measureCalls > 470) {
            measure = make();
            measureCalls = 49;
        }
        setWord(measure, stack);
        measureCalls += stack.length() + 2;
        return measure.far(state);
    }
}
