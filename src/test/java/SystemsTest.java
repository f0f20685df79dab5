/** Promises 1 to 11: ordinary inputs, the edges that the document names, wrong inputs. */
final class SystemsTest {
    private static final int NONE = StackPrograms.NONE;
    private static final int BAD = StackPrograms.BAD;
    private static final int FULL = StackPrograms.FULL;
    private static final int[] FAR_OUT = {Integer.MIN_VALUE, -1, 8, Integer.MAX_VALUE};

    private final Due due = new Due("SystemsTest");

    public static void main(String[] args) {
        SystemsTest test = new SystemsTest();
        test.newObject();
        test.rules();
        test.arcs();
        test.ends();
        test.clears();
        test.words();
        test.netReadsTopFirst();
        test.wrongStates();
        test.distances();
        test.changesAreSeen();
        test.leastRuleFirst();
        test.wayGrowsHigh();
        test.limitOfWay();
        test.limitOfFar();
        test.whatComesAfter();
        test.allRulesOfTwoSigns();
        test.rulesStayApart();
        test.due.close();
    }

    private void newObject() {
        StackPrograms x = new StackPrograms();
        for (int state = 0; state < 8; state++) {
            due.is("new: lies", x.lies(state), 0);
            due.is("new: far", x.far(state), NONE);
            due.is("new: way", x.way(state, 0), NONE);
            due.is("new: after", x.after(state), 0);
        }
        due.is("new: drop", x.drop(), 0);
        due.is("new: clear", x.clear(), 0);
        due.is("new: first rule", x.rule(0, 0, 0, 0, 0, 0), 0);
        due.is("new: first arc", x.arc(0, 0, 8), 1);
        due.is("new: end", x.end(15, 0), 0);
        StackPrograms y = new StackPrograms();
        due.is("another object has its own rules", y.rule(0, 0, 0, 0, 0, 0), 0);
    }

    private void rules() {
        StackPrograms x = new StackPrograms();
        for (int bad : new int[] {Integer.MIN_VALUE, -1, 12, Integer.MAX_VALUE}) {
            due.is("rule: p", x.rule(bad, 0, 0, 0, 0, 0), BAD);
            due.is("rule: g", x.rule(0, bad, 0, 0, 0, 0), BAD);
            due.is("rule: q", x.rule(0, 0, bad, 0, 0, 0), BAD);
            due.is("rule: n", x.rule(0, 0, 0, bad, 0, 0), BAD);
            due.is("rule: w1 of 1", x.rule(0, 0, 0, 1, bad, 0), BAD);
            due.is("rule: w1 of 2", x.rule(0, 0, 0, 2, bad, 0), BAD);
            due.is("rule: w2 of 2", x.rule(0, 0, 0, 2, 0, bad), BAD);
        }
        due.is("rule: p 8", x.rule(8, 0, 0, 0, 0, 0), BAD);
        due.is("rule: q 8", x.rule(0, 0, 8, 0, 0, 0), BAD);
        due.is("rule: n 3", x.rule(0, 0, 0, 3, 0, 0), BAD);
        due.is("rule: none of 0 matters", x.rule(7, 11, 7, 0, -9, 99), 0);
        due.is("rule: w2 of 1 does not matter", x.rule(7, 11, 7, 1, 11, Integer.MIN_VALUE), 1);
        due.is("rule: two signs", x.rule(7, 11, 7, 2, 11, 11), 2);
        for (int i = 3; i < 48; i++) {
            due.is("rule: the same again", x.rule(0, 0, 0, 0, 0, 0), i);
        }
        due.is("rule: full", x.rule(0, 0, 0, 0, 0, 0), FULL);
        due.is("rule: bad, though full", x.rule(0, 12, 0, 0, 0, 0), BAD);
        due.is("clear: 48", x.clear(), 48);
        due.is("rule: room again", x.rule(0, 0, 0, 0, 0, 0), 0);
    }

    private void arcs() {
        StackPrograms x = new StackPrograms();
        for (int bad : new int[] {Integer.MIN_VALUE, -1, 16, Integer.MAX_VALUE}) {
            due.is("arc: from", x.arc(bad, 0, 8), BAD);
            due.is("arc: sign", x.arc(0, bad, 8), BAD);
            due.is("arc: to", x.arc(0, 0, bad), BAD);
        }
        due.is("arc: sign 12", x.arc(0, 12, 8), BAD);
        for (int to = 0; to < 8; to++) {
            due.is("arc: to a state", x.arc(8, 0, to), BAD);
        }
        int count = 0;
        for (int from = 0; from < 16; from++) {
            for (int i = 0; i < 4; i++) {
                count++;
                due.is("arc", x.arc(from, 11 - i, 15 - i), count);
                due.is("arc again", x.arc(from, 11 - i, 15 - i), count);
            }
        }
        due.is("arc: full", x.arc(0, 0, 8), FULL);
        due.is("arc: there already, though full", x.arc(15, 8, 12), 64);
        due.is("arc: bad, though full", x.arc(0, 0, 7), BAD);
        due.is("clear: arcs are no rules", x.clear(), 0);
        due.is("arc: room again", x.arc(0, 0, 8), 1);
    }

    private void ends() {
        StackPrograms x = new StackPrograms();
        for (int bad : new int[] {Integer.MIN_VALUE, -1, 16, Integer.MAX_VALUE}) {
            due.is("end: node", x.end(bad, 1), BAD);
            due.is("end: is", x.end(0, bad), BAD);
        }
        due.is("end: is 2", x.end(0, 2), BAD);
        for (int node = 0; node < 16; node++) {
            due.is("end", x.end(node, 1), 0);
            due.is("end", x.end(node, 1), 1);
            due.is("end", x.end(node, 0), 1);
            due.is("end", x.end(node, 0), 0);
        }
    }

    private void clears() {
        StackPrograms x = new StackPrograms();
        x.rule(0, 0, 1, 0, 0, 0);
        x.rule(0, 0, 2, 0, 0, 0);
        x.arc(0, 0, 8);
        x.end(8, 1);
        x.end(1, 1);
        x.push(0);
        due.is("before clear: lies", x.lies(0), 1);
        due.is("clear", x.clear(), 2);
        due.is("clear: no arcs", x.lies(0), 0);
        due.is("clear: far", x.far(0), NONE);
        due.is("clear: after", x.after(0), 0);
        due.is("clear: no end", x.end(8, 1), 0);
        due.is("clear: still no arc to it", x.lies(0), 0);
        due.is("clear: no end", x.end(1, 0), 0);
        due.is("clear: the word stays", x.push(0), 2);
    }

    private void words() {
        StackPrograms x = new StackPrograms();
        for (int bad : new int[] {Integer.MIN_VALUE, -1, 12, Integer.MAX_VALUE}) {
            due.is("push: bad", x.push(bad), BAD);
        }
        for (int i = 1; i <= 30; i++) {
            due.is("push", x.push(i % 12), i);
        }
        due.is("push: full", x.push(0), FULL);
        due.is("push: bad, though full", x.push(12), BAD);
        due.is("drop", x.drop(), 30);
        due.is("drop", x.drop(), 0);
        due.is("push: room again", x.push(11), 1);
    }

    private void netReadsTopFirst() {
        StackPrograms x = new StackPrograms();
        x.arc(2, 1, 8);
        x.arc(8, 0, 9);
        x.arc(2, 1, 10);
        x.end(9, 1);
        x.push(0);
        x.push(1);
        due.is("lies: the top first", x.lies(2), 1);
        due.is("lies: another state", x.lies(1), 0);
        x.drop();
        x.push(1);
        x.push(0);
        due.is("lies: the bottom first is wrong", x.lies(2), 0);
        x.drop();
        x.push(1);
        due.is("lies: half of it", x.lies(2), 0);
        x.end(10, 1);
        due.is("lies: by the other arc", x.lies(2), 1);
        x.drop();
        due.is("lies: an empty word", x.lies(2), 0);
        x.end(2, 1);
        due.is("lies: a state that is an end", x.lies(2), 1);
        x.push(1);
        x.push(1);
        due.is("lies: an end is no arc", x.lies(2), 0);
    }

    private void wrongStates() {
        StackPrograms x = new StackPrograms();
        for (int bad : FAR_OUT) {
            due.is("lies: bad", x.lies(bad), BAD);
            due.is("far: bad", x.far(bad), BAD);
            due.is("way: bad", x.way(bad, 0), BAD);
            due.is("way: bad", x.way(bad, -1), BAD);
            due.is("after: bad", x.after(bad), BAD);
        }
    }

    private void distances() {
        StackPrograms x = new StackPrograms();
        x.rule(0, 0, 1, 2, 1, 2);
        x.rule(1, 1, 2, 1, 3, 0);
        x.rule(2, 3, 3, 0, 0, 0);
        x.rule(3, 2, 4, 0, 0, 0);
        x.arc(4, 5, 8);
        x.end(8, 1);
        x.push(5);
        x.push(0);
        due.is("far: the first sign comes on top", x.far(0), 4);
        for (int k = 0; k < 4; k++) {
            due.is("way", x.way(0, k), k);
        }
        due.is("way: no more", x.way(0, 4), NONE);
        due.is("way: k", x.way(0, -1), NONE);
        due.is("way: k", x.way(0, Integer.MIN_VALUE), NONE);
        due.is("way: k", x.way(0, Integer.MAX_VALUE), NONE);
        due.is("far: no rule", x.far(5), NONE);
        due.is("way: no way", x.way(5, 0), NONE);
        due.is("way: the first one again", x.way(0, 3), 3);
        x.arc(2, 3, 9);
        x.arc(9, 2, 10);
        x.arc(10, 5, 10);
        x.end(10, 1);
        due.is("far: the set on the way", x.far(0), 2);
        due.is("way", x.way(0, 1), 1);
        due.is("way", x.way(0, 2), NONE);
    }

    private void changesAreSeen() {
        StackPrograms x = new StackPrograms();
        x.push(0);
        due.is("no rule", x.way(0, 0), NONE);
        x.end(1, 1);
        x.rule(0, 0, 2, 1, 0, 0);
        x.rule(2, 0, 1, 0, 0, 0);
        due.is("two rules", x.far(0), 2);
        due.is("two rules", x.way(0, 0), 0);
        due.is("two rules: after", x.after(2), 0);
        x.rule(0, 0, 1, 0, 0, 0);
        due.is("a third rule", x.far(0), 1);
        due.is("a third rule", x.way(0, 0), 2);
        due.is("a third rule", x.way(0, 1), NONE);
        x.end(1, 0);
        due.is("no end", x.way(0, 0), NONE);
        x.arc(0, 0, 8);
        x.end(8, 1);
        due.is("an arc", x.far(0), 0);
        due.is("an arc: after", x.after(2), 1);
        x.end(1, 1);
        x.end(8, 0);
        due.is("an end again", x.way(0, 0), 2);
        x.push(0);
        due.is("a longer word", x.way(0, 0), NONE);
        x.drop();
        due.is("an empty word", x.way(0, 0), NONE);
        x.push(0);
        due.is("the word again", x.way(0, 0), 2);
        x.clear();
        due.is("nothing", x.way(0, 0), NONE);
        x.end(9, 1);
        due.is("no arc", x.far(0), NONE);
        due.is("no arc: after", x.after(0), 0);
        x.arc(0, 0, 9);
        due.is("an arc alone", x.far(0), 0);
        due.is("an arc alone: after", x.after(0), 1);
        due.is("an arc alone: way", x.way(3, 0), NONE);
        x.rule(3, 0, 0, 1, 0, 0);
        due.is("a rule alone: way", x.way(3, 0), 0);
    }

    private void leastRuleFirst() {
        StackPrograms x = new StackPrograms();
        x.end(3, 1);
        x.rule(2, 0, 3, 0, 0, 0);
        x.rule(1, 0, 3, 0, 0, 0);
        x.rule(0, 0, 4, 1, 0, 0);
        x.rule(0, 0, 2, 1, 0, 0);
        x.rule(0, 0, 1, 1, 0, 0);
        x.rule(0, 0, 2, 1, 0, 0);
        x.rule(2, 0, 3, 0, 0, 0);
        x.push(0);
        due.is("least: far", x.far(0), 2);
        // Rule 2 leads nowhere; of 3, 4 and 5 the first step decides, though 4 could go on with 1 only.
        due.is("least: first", x.way(0, 0), 3);
        due.is("least: second", x.way(0, 1), 0);
        x.clear();
        x.end(3, 1);
        x.rule(0, 0, 1, 0, 0, 0);
        x.rule(1, 0, 3, 0, 0, 0);
        x.rule(0, 0, 0, 0, 0, 0);
        x.rule(0, 0, 3, 0, 0, 0);
        x.push(0);
        due.is("least: two signs", x.far(0), 2);
        due.is("least: the lesser first rule", x.way(0, 0), 0);
        due.is("least: then what is left", x.way(0, 1), 1);
    }

    private void wayGrowsHigh() {
        StackPrograms x = new StackPrograms();
        // The set is one stack of eight signs 1, higher than the word.
        x.rule(0, 0, 0, 2, 0, 1);
        x.rule(0, 0, 1, 0, 0, 0);
        x.arc(1, 1, 8);
        for (int node = 8; node < 15; node++) {
            x.arc(node, 1, node + 1);
        }
        x.end(15, 1);
        x.push(0);
        due.is("high: far", x.far(0), 9);
        for (int k = 0; k < 8; k++) {
            due.is("high: way", x.way(0, k), 0);
        }
        due.is("high: way", x.way(0, 8), 1);
        due.is("high: way", x.way(0, 9), NONE);
    }

    /** Sign i of 1 .. 10 is gone in 2^(i + 1) - 1 steps, sign 0 in one. */
    private static void doubling(StackPrograms x) {
        x.rule(0, 0, 0, 0, 0, 0);
        for (int i = 1; i <= 10; i++) {
            x.rule(0, i, 0, 2, i - 1, i - 1);
        }
        x.end(0, 1);
    }

    private static void word(StackPrograms x, int... signs) {
        x.drop();
        for (int sign : signs) {
            x.push(sign);
        }
    }

    private void limitOfWay() {
        StackPrograms x = new StackPrograms();
        doubling(x);
        // 1023 + 511 + 255 + 127 + 63 + 15 + 3 + 3 = 2000
        word(x, 9, 8, 7, 6, 5, 3, 1, 1);
        due.is("limit of way: far", x.far(0), 2000);
        due.is("limit of way: first", x.way(0, 0), 1);
        due.is("limit of way: last but 2", x.way(0, 1997), 1);
        due.is("limit of way: last", x.way(0, 1999), 0);
        due.is("limit of way: no more", x.way(0, 2000), NONE);
        x.push(0);
        due.is("limit of way: far", x.far(0), 2001);
        due.is("limit of way: none", x.way(0, 0), NONE);
        due.is("limit of way: none", x.way(0, 2000), NONE);
        // 30 signs that all grow: the stack gets higher than the word may be.
        x.drop();
        for (int i = 0; i < 30; i++) {
            x.push(5);
        }
        due.is("high word: far", x.far(0), 30 * 63);
        due.is("high word: way", x.way(0, 0), 5);
        due.is("high word: way", x.way(0, 5), 0);
        due.is("high word: way", x.way(0, 30 * 63 - 1), 0);
        due.is("high word: way", x.way(0, 30 * 63), NONE);
    }

    private void limitOfFar() {
        StackPrograms x = new StackPrograms();
        // Sign i of 0 .. 8 is gone in many steps: in state s + 1 sign 0 is all that sign 8 is in state s.
        for (int s = 0; s < 4; s++) {
            for (int i = 1; i <= 8; i++) {
                x.rule(s, i, s, 2, i - 1, i - 1);
            }
            if (s == 0) {
                x.rule(0, 0, 0, 0, 0, 0);
            } else {
                x.rule(s, 0, s - 1, 2, 8, 8 + s);
                x.rule(s - 1, 8 + s, s, 0, 0, 0);
            }
        }
        for (int s = 0; s < 4; s++) {
            x.end(s, 1);
        }
        long[] steps = new long[4];
        long one = 1;
        for (int s = 0; s < 4; s++) {
            for (int i = 0; i <= 8; i++) {
                word(x, i);
                long all = (one << i) + (1L << i) - 1;
                due.is("limit of far " + s + " " + i, x.far(s), Math.min(all, 1000000));
                steps[s] = all;
            }
            one = steps[s] + 2;
        }
        due.holds("limit of far: beyond an int", steps[3] > Integer.MAX_VALUE);
        word(x, 8);
        due.is("limit of far: no way", x.way(3, 0), NONE);
        due.is("limit of far: none is still none", x.far(5), NONE);
        word(x, 8, 8, 8, 8, 8, 8, 8, 8, 8, 8, 8, 8, 8, 8, 8, 8, 8, 8, 8, 8, 8, 8, 8, 8, 8, 8, 8, 8, 8, 8);
        due.is("limit of far: 30 of them", x.far(3), 1000000);
        due.is("limit of far: exact", x.far(0), 30 * 511);
    }

    private void whatComesAfter() {
        StackPrograms x = new StackPrograms();
        x.arc(0, 0, 8);
        x.arc(8, 1, 8);
        x.end(8, 1);
        x.rule(0, 0, 1, 2, 2, 3);
        x.rule(1, 2, 1, 2, 2, 2);
        x.rule(1, 2, 2, 0, 0, 0);
        x.rule(2, 3, 3, 0, 0, 0);
        x.rule(3, 1, 4, 1, 4, 0);
        word(x, 1, 0);
        due.is("after: itself", x.after(0), 1);
        due.is("after: far", x.far(0), 0);
        word(x, 1, 1, 3, 2, 2, 2, 2, 2);
        due.is("after: it grew", x.after(1), 1);
        due.is("after: it shrinks", x.after(2), 1);
        due.is("after: not there", x.after(0), 0);
        word(x, 1, 1, 3);
        due.is("after: one is left", x.after(1), 0);
        due.is("after: all gone", x.after(2), 1);
        word(x, 1, 1, 1);
        due.is("after: from below", x.after(3), 1);
        word(x);
        due.is("after: an empty stack", x.after(3), 1);
        due.is("after: an empty stack", x.after(4), 0);
        word(x, 1, 4);
        due.is("after: a new sign", x.after(4), 1);
        word(x, 4, 1);
        due.is("after: in the wrong order", x.after(4), 0);
        x.end(5, 1);
        word(x);
        due.is("after: a state that is an end", x.after(5), 1);
        word(x, 1);
        due.is("after: nothing below it", x.after(5), 0);
    }

    private void allRulesOfTwoSigns() {
        StackPrograms x = new StackPrograms();
        for (int r = 0; r < 48; r++) {
            x.rule(r % 8, r % 12, (r + 1) % 8, 2, (r + 1) % 12, r % 12);
        }
        x.arc(7, 11, 15);
        x.end(15, 1);
        word(x, 11);
        due.is("48 rules: after itself", x.after(7), 1);
        word(x, 11, 0);
        due.is("48 rules: after one step", x.after(0), 1);
        word(x, 11, 0, 1);
        due.is("48 rules: after two", x.after(1), 1);
        word(x, 11, 1, 1);
        due.is("48 rules: after none", x.after(1), 0);
    }

    /** What lies below the first sign of one rule is not what lies below that of another. */
    private void rulesStayApart() {
        for (int r = 0; r < 48; r++) {
            StackPrograms x = rulesForEachSign();
            for (int below = 0; below < 12; below++) {
                word(x, below, r % 12);
                due.is("apart: " + r + " " + below, x.after(4 + r / 12), below == (r * 5 + r / 12) % 12 ? 1 : 0);
            }
        }
    }

    private static StackPrograms rulesForEachSign() {
        StackPrograms x = new StackPrograms();
        for (int r = 0; r < 48; r++) {
            x.rule(r / 12, r % 12, 4 + r / 12, 2, r % 12, (r * 5 + r / 12) % 12);
        }
        for (int sign = 0; sign < 12; sign++) {
            for (int state = 0; state < 4; state++) {
                x.arc(state, sign, 8);
            }
        }
        x.end(8, 1);
        return x;
    }
}
