import java.util.ArrayDeque;
import java.util.ArrayList;
import java.util.HashMap;
import java.util.HashSet;
import java.util.List;
import java.util.Map;
import java.util.Random;
import java.util.Set;

/** Promises 8 to 11 against a plain search through the configurations of many small systems. */
final class SystemSearchTest {
    private static final int MOST_FOUND = 3000;
    private static final int MOST_HEIGHT = 14;
    private static final int DEPTH = 12;

    private final Due due = new Due("SystemSearchTest");
    private final Random random = new Random(20261115);
    private int found;
    private int foundFar;
    private int none;
    private int afterYes;
    private int afterNo;

    /** A system of the test's own: small numbers of states, signs, rules and arcs. */
    private final List<int[]> rules = new ArrayList<>();
    private final List<int[]> arcs = new ArrayList<>();
    private final Set<Integer> ends = new HashSet<>();
    private int states;
    private int signs;

    public static void main(String[] args) {
        SystemSearchTest test = new SystemSearchTest();
        for (int i = 0; i < 1000; i++) {
            test.oneSystem();
        }
        test.due.holds("enough found: " + test.found, test.found > 1000);
        test.due.holds("enough found far away: " + test.foundFar, test.foundFar > 100);
        test.due.holds("enough not found: " + test.none, test.none > 500);
        test.due.holds("enough after: " + test.afterYes, test.afterYes > 500);
        test.due.holds("enough not after: " + test.afterNo, test.afterNo > 500);
        test.due.close();
    }

    private void make(StackPrograms x) {
        states = 1 + random.nextInt(4);
        signs = 1 + random.nextInt(3);
        rules.clear();
        arcs.clear();
        ends.clear();
        int most = random.nextInt(9);
        for (int i = 0; i < most; i++) {
            int[] r = {random.nextInt(states), random.nextInt(signs), random.nextInt(states), random.nextInt(3),
                random.nextInt(signs), random.nextInt(signs)};
            rules.add(r);
            x.rule(r[0], r[1], r[2], r[3], r[4], r[5]);
        }
        int mostArcs = random.nextInt(8);
        for (int i = 0; i < mostArcs; i++) {
            int from = random.nextBoolean() ? random.nextInt(states) : 8 + random.nextInt(3);
            int[] a = {from, random.nextInt(signs), 8 + random.nextInt(3)};
            arcs.add(a);
            x.arc(a[0], a[1], a[2]);
        }
        int mostEnds = 1 + random.nextInt(2);
        for (int i = 0; i < mostEnds; i++) {
            int node = random.nextInt(3) == 0 ? random.nextInt(states) : 8 + random.nextInt(3);
            ends.add(node);
            x.end(node, 1);
        }
    }

    /** A configuration is its state's digit, then its signs' digits, the top first. */
    private boolean inSet(String c) {
        Set<Integer> nodes = new HashSet<>();
        nodes.add(c.charAt(0) - '0');
        for (int i = 1; i < c.length(); i++) {
            Set<Integer> next = new HashSet<>();
            for (int[] a : arcs) {
                if (nodes.contains(a[0]) && a[1] == c.charAt(i) - '0') {
                    next.add(a[2]);
                }
            }
            nodes = next;
        }
        nodes.retainAll(ends);
        return !nodes.isEmpty();
    }

    private String apply(int[] r, String c) {
        if (c.length() < 2 || c.charAt(0) - '0' != r[0] || c.charAt(1) - '0' != r[1]) {
            return null;
        }
        String in = r[3] == 0 ? "" : r[3] == 1 ? "" + r[4] : "" + r[4] + r[5];
        return r[2] + in + c.substring(2);
    }

    /** How far it is; -1 there is no way; -2 the search came to no answer within its limits. */
    private int search(String from) {
        Map<String, Integer> depth = new HashMap<>();
        ArrayDeque<String> queue = new ArrayDeque<>();
        depth.put(from, 0);
        queue.add(from);
        boolean isCut = false;
        while (!queue.isEmpty()) {
            String c = queue.poll();
            if (inSet(c)) {
                return isCut && depth.get(c) > MOST_HEIGHT - from.length() ? -2 : depth.get(c);
            }
            for (int[] r : rules) {
                String to = apply(r, c);
                if (to == null || depth.containsKey(to)) {
                    continue;
                }
                if (to.length() > MOST_HEIGHT || depth.size() > MOST_FOUND) {
                    isCut = true;
                    continue;
                }
                depth.put(to, depth.get(c) + 1);
                queue.add(to);
            }
        }
        return isCut ? -2 : -1;
    }

    /** The rules, in order, whose rows of that many steps come to the set; the first such row. */
    private boolean firstRow(String from, int steps, List<Integer> row, Set<String> hopeless) {
        if (steps == 0) {
            return inSet(from);
        }
        if (hopeless.contains(steps + " " + from)) {
            return false;
        }
        for (int r = 0; r < rules.size(); r++) {
            String to = apply(rules.get(r), from);
            if (to == null) {
                continue;
            }
            row.add(r);
            if (firstRow(to, steps - 1, row, hopeless)) {
                return true;
            }
            row.remove(row.size() - 1);
        }
        hopeless.add(steps + " " + from);
        return false;
    }

    private String randomConfiguration(int most) {
        StringBuilder c = new StringBuilder();
        c.append(random.nextInt(states));
        int n = random.nextInt(most + 1);
        for (int i = 0; i < n; i++) {
            c.append(random.nextInt(signs));
        }
        return c.toString();
    }

    private static void setWord(StackPrograms x, String c) {
        x.drop();
        for (int i = c.length() - 1; i >= 1; i--) {
            x.push(c.charAt(i) - '0');
        }
    }

    private void oneSystem() {
        StackPrograms x = new StackPrograms();
        make(x);
        for (int i = 0; i < 6; i++) {
            String c = randomConfiguration(5);
            setWord(x, c);
            int state = c.charAt(0) - '0';
            due.is("lies " + c, x.lies(state), inSet(c) ? 1 : 0);
            compareFar(x, c, state);
        }
        Set<String> reached = spread();
        for (int i = 0; i < 8; i++) {
            String c = randomConfiguration(4);
            setWord(x, c);
            compareAfter(x, c, reached);
        }
    }

    private void compareFar(StackPrograms x, String c, int state) {
        int want = search(c);
        int got = x.far(state);
        if (want == -2) {
            due.holds("far " + c + " is no less than " + MOST_HEIGHT, got == -1 || got > MOST_HEIGHT - c.length());
            return;
        }
        due.is("far " + c, got, want);
        if (want < 0) {
            none++;
            due.is("way " + c, x.way(state, 0), -1);
            return;
        }
        found++;
        foundFar += want >= 3 ? 1 : 0;
        if (want > DEPTH) {
            return;
        }
        List<Integer> row = new ArrayList<>();
        due.holds("a row " + c, firstRow(c, want, row, new HashSet<>()));
        for (int k = 0; k < want; k++) {
            due.is("way " + c + " " + k, x.way(state, k), row.get(k));
        }
        due.is("way " + c + " no more", x.way(state, want), -1);
    }

    private void allWords(String from, int more, List<String> into) {
        into.add(from);
        if (more > 0) {
            for (int s = 0; s < signs; s++) {
                allWords(from + s, more - 1, into);
            }
        }
    }

    private List<String> allInSet(int most) {
        List<String> all = new ArrayList<>();
        for (int p = 0; p < states; p++) {
            allWords("" + p, most, all);
        }
        all.removeIf(c -> !inSet(c));
        return all;
    }

    /** Some of what the set can come to. */
    private Set<String> spread() {
        Set<String> seen = new HashSet<>(allInSet(5));
        ArrayDeque<String> queue = new ArrayDeque<>(seen);
        while (!queue.isEmpty() && seen.size() < MOST_FOUND) {
            String c = queue.poll();
            for (int[] r : rules) {
                String to = apply(r, c);
                if (to != null && to.length() <= 9 && seen.add(to)) {
                    queue.add(to);
                }
            }
        }
        return seen;
    }

    /** An object with the rules, and the set of c alone. */
    private StackPrograms setOf(String c) {
        StackPrograms y = new StackPrograms();
        for (int[] r : rules) {
            y.rule(r[0], r[1], r[2], r[3], r[4], r[5]);
        }
        int node = c.charAt(0) - '0';
        for (int i = 1; i < c.length(); i++) {
            y.arc(node, c.charAt(i) - '0', 7 + i);
            node = 7 + i;
        }
        y.end(node, 1);
        return y;
    }

    /** Whether c is after the set is also whether one of the set is before the set of c alone. */
    private boolean isBefore(String c) {
        StackPrograms y = setOf(c);
        int asked = 0;
        for (String s : allInSet(6)) {
            asked++;
            // With eight calls for each an object would come to more than it may be used for.
            if (asked % 50 == 0) {
                y = setOf(c);
            }
            setWord(y, s);
            if (y.far(s.charAt(0) - '0') != -1) {
                return true;
            }
        }
        return false;
    }

    private void compareAfter(StackPrograms x, String c, Set<String> reached) {
        int got = x.after(c.charAt(0) - '0');
        if (reached.contains(c)) {
            due.is("after " + c, got, 1);
        }
        // Words of six signs are enough here: the nets and the configurations are smaller than that.
        due.is("after, by before " + c, got, isBefore(c) ? 1 : 0);
        afterYes += got;
        afterNo += 1 - got;
    }
}
