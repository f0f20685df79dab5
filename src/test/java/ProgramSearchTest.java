import java.util.ArrayDeque;
import java.util.ArrayList;
import java.util.HashMap;
import java.util.HashSet;
import java.util.List;
import java.util.Map;
import java.util.Random;
import java.util.Set;

/** Promises 13 to 17 against a plain search through the runs of many random programs. */
final class ProgramSearchTest {
    private static final int MOST_FOUND = 4000;
    private static final int MOST_OPEN = 12;
    private static final String[] GLOBALS = {"g", "h1", "if0"};
    private static final String[] LOCALS = {"x", "loc"};

    private final Due due = new Due("ProgramSearchTest");
    private final Random random = new Random(15112026);
    private final StringBuilder text = new StringBuilder();
    private final List<Statement> statements = new ArrayList<>();
    private final List<List<Statement>> procedures = new ArrayList<>();
    private int globals;
    private int locals;
    private int failing;
    private int failingLate;
    private int failingDeep;
    private int safe;

    private static final class Exp {
        char kind;
        int variable;
        Exp left;
        Exp right;
    }

    private static final class Statement {
        int number;
        int at;
        int procedure;
        int kind;
        int variable;
        int callee;
        Exp exp;
        List<Statement> then;
        List<Statement> otherwise;
    }

    /** What a call still has to do: a row of statements, the first one next. */
    private static final class Todo {
        final Statement head;
        final Todo tail;

        Todo(Statement head, Todo tail) {
            this.head = head;
            this.tail = tail;
        }

        @Override
        public String toString() {
            return head.number + (tail == null ? "" : "," + tail);
        }
    }

    /** The open calls, the latest first. */
    private static final class Frame {
        final Todo todo;
        final int locals;
        final Frame below;

        Frame(Todo todo, int locals, Frame below) {
            this.todo = todo;
            this.locals = locals;
            this.below = below;
        }

        int depth() {
            return below == null ? 1 : 1 + below.depth();
        }
    }

    private static final class Config {
        final Frame frame;
        final int globals;
        final String key;

        Config(Frame frame, int globals) {
            Frame f = frame;
            while (f != null && f.todo == null) {
                f = f.below;
            }
            this.frame = f;
            this.globals = globals;
            StringBuilder b = new StringBuilder();
            b.append(globals);
            for (Frame g = f; g != null; g = g.below) {
                b.append('/').append(g.locals).append(':').append(g.todo);
            }
            key = b.toString();
        }
    }

    public static void main(String[] args) {
        ProgramSearchTest test = new ProgramSearchTest();
        for (int i = 0; i < 12000; i++) {
            test.oneProgram(i);
        }
        test.due.holds("enough failing: " + test.failing, test.failing > 800);
        test.due.holds("enough failing late: " + test.failingLate, test.failingLate > 100);
        test.due.holds("enough failing deep: " + test.failingDeep, test.failingDeep > 100);
        test.due.holds("enough safe: " + test.safe, test.safe > 300);
        test.due.close();
    }

    private void blank(boolean isNeeded) {
        int n = random.nextInt(8);
        text.append(n == 0 ? "\n" : n == 1 ? "  " : n < 4 || isNeeded ? " " : "");
    }

    private void word(String word) {
        text.append(word);
        blank(true);
    }

    private void mark(char mark) {
        text.append(mark);
        blank(false);
    }

    private String variableName(int variable) {
        return variable < 3 ? GLOBALS[variable] : LOCALS[variable - 3];
    }

    private int anyVariable() {
        int n = random.nextInt(globals + locals);
        return n < globals ? n : 3 + n - globals;
    }

    private Exp exp(int level, int depth) {
        Exp e = new Exp();
        int n = random.nextInt(10);
        if (level < 2 && depth < 3 && n < 3) {
            e.kind = level == 0 ? '|' : '&';
            e.left = exp(level + 1, depth);
            mark(e.kind);
            e.right = exp(level, depth + 1);
        } else if (level < 2) {
            return exp(level + 1, depth);
        } else if (depth < 4 && n < 2) {
            e.kind = '!';
            mark('!');
            e.left = exp(2, depth + 1);
        } else if (depth < 3 && n < 3) {
            mark('(');
            e = exp(0, depth + 1);
            mark(')');
        } else if (globals + locals > 0 && n < 7) {
            e.kind = 'v';
            e.variable = anyVariable();
            word(variableName(e.variable));
        } else {
            e.kind = n < 9 ? '*' : random.nextBoolean() ? '0' : '1';
            mark(e.kind);
        }
        return e;
    }

    /** One of some variables is 0: what fails late. */
    private Exp notAll(int more) {
        Exp not = new Exp();
        not.kind = '!';
        mark('!');
        not.left = new Exp();
        not.left.kind = 'v';
        not.left.variable = anyVariable();
        word(variableName(not.left.variable));
        if (more == 0) {
            return not;
        }
        Exp e = new Exp();
        e.kind = '|';
        e.left = not;
        mark('|');
        e.right = notAll(more - 1);
        return e;
    }

    private List<Statement> block(int procedure, int most, int depth, int count) {
        List<Statement> list = new ArrayList<>();
        int n = random.nextInt(most + 1);
        for (int i = 0; i < n && statements.size() < 25 && text.length() < 480; i++) {
            list.add(statement(procedure, depth, count));
        }
        return list;
    }

    private Statement statement(int procedure, int depth, int count) {
        Statement s = new Statement();
        s.number = statements.size();
        s.at = text.length();
        s.procedure = procedure;
        statements.add(s);
        int[] kinds = {0, 0, 0, 0, 1, 1, 2, 3, 3, 4, 5, 6, 7};
        s.kind = kinds[random.nextInt(kinds.length)];
        if ((s.kind == 0 && globals + locals == 0) || (depth > 2 && (s.kind == 1 || s.kind == 2))) {
            s.kind = 7;
        }
        if (s.kind == 6 && random.nextBoolean()) {
            s.kind = 3;
        }
        switch (s.kind) {
            case 0:
                s.variable = anyVariable();
                word(variableName(s.variable));
                mark('=');
                s.exp = exp(0, 0);
                break;
            case 1:
            case 2:
                word(s.kind == 1 ? "if" : "while");
                s.exp = exp(0, 0);
                mark('{');
                s.then = block(procedure, 3, depth + 1, count);
                mark('}');
                s.otherwise = new ArrayList<>();
                if (s.kind == 1 && random.nextBoolean()) {
                    word("else");
                    mark('{');
                    s.otherwise = block(procedure, 3, depth + 1, count);
                    mark('}');
                }
                return s;
            case 3:
                word("call");
                s.callee = random.nextInt(count);
                word("p" + s.callee);
                break;
            case 4:
            case 5:
                word(s.kind == 4 ? "assert" : "assume");
                s.exp = s.kind == 4 && globals + locals > 0 && random.nextInt(4) > 0 ? notAll(3) : exp(0, 0);
                break;
            default:
                word(s.kind == 6 ? "return" : "skip");
        }
        mark(';');
        return s;
    }

    private void names(String[] names, int count) {
        if (count == 0) {
            return;
        }
        word("var");
        for (int i = 0; i < count; i++) {
            if (i > 0) {
                mark(',');
            }
            word(names[i]);
        }
        mark(';');
    }

    private void makeProgram() {
        text.setLength(0);
        statements.clear();
        procedures.clear();
        blank(false);
        globals = random.nextInt(4);
        names(GLOBALS, globals);
        int count = 1 + random.nextInt(random.nextBoolean() ? 6 : 3);
        for (int p = 0; p < count; p++) {
            word("proc");
            word("p" + p);
            mark('{');
            locals = random.nextInt(3);
            names(LOCALS, locals);
            procedures.add(block(p, p == 0 ? 8 : 5, 0, count));
            mark('}');
        }
    }

    /** What the expression can be: 1 for 0, 2 for 1, 3 for both. */
    private static int values(Exp e, int setting) {
        switch (e.kind) {
            case '0':
                return 1;
            case '1':
                return 2;
            case '*':
                return 3;
            case 'v':
                return 1 << (setting >> e.variable & 1);
            case '!':
                int v = values(e.left, setting);
                return (v & 1) << 1 | v >> 1;
            default:
                int can = 0;
                int left = values(e.left, setting);
                int right = values(e.right, setting);
                for (int a = 0; a <= 1; a++) {
                    for (int b = 0; b <= 1; b++) {
                        if ((left >> a & 1) != 0 && (right >> b & 1) != 0) {
                            can |= 1 << (e.kind == '&' ? a & b : a | b);
                        }
                    }
                }
                return can;
        }
    }

    private static Todo before(List<Statement> list, Todo tail) {
        Todo todo = tail;
        for (int i = list.size() - 1; i >= 0; i--) {
            todo = new Todo(list.get(i), todo);
        }
        return todo;
    }

    private static int can(Config c) {
        Statement s = c.frame.todo.head;
        return s.exp == null ? 1 : values(s.exp, c.globals | c.frame.locals << 3);
    }

    /** What a step with the value leads to; null if the run fails, stops or ends. */
    private Config next(Config c, int value) {
        Statement s = c.frame.todo.head;
        Todo tail = c.frame.todo.tail;
        int setting = c.globals | c.frame.locals << 3;
        Todo then = tail;
        Frame frame = null;
        switch (s.kind) {
            case 0:
                setting = setting & ~(1 << s.variable) | value << s.variable;
                break;
            case 1:
                then = before(value == 1 ? s.then : s.otherwise, tail);
                break;
            case 2:
                then = value == 1 ? before(s.then, c.frame.todo) : tail;
                break;
            case 3:
                frame = new Frame(before(procedures.get(s.callee), null), 0,
                    new Frame(tail, c.frame.locals, c.frame.below));
                break;
            case 4:
            case 5:
                if (value == 0) {
                    return null;
                }
                break;
            case 6:
                then = null;
                break;
            default:
        }
        if (frame == null) {
            frame = new Frame(then, setting >> 3, c.frame.below);
        }
        Config to = new Config(frame, setting & 7);
        return to.frame == null ? null : to;
    }

    /** How few steps to fail; -1 never; -2 the search came to no answer. */
    private int search(Config start) {
        if (start.frame == null) {
            return -1;
        }
        Map<String, Integer> depth = new HashMap<>();
        ArrayDeque<Config> queue = new ArrayDeque<>();
        depth.put(start.key, 0);
        queue.add(start);
        // Calls that lie deeper are not looked at: what is as far as the first of them is not known then.
        int cutAt = Integer.MAX_VALUE;
        while (!queue.isEmpty()) {
            Config c = queue.poll();
            int can = can(c);
            if (depth.get(c.key) > cutAt) {
                return -2;
            }
            if (c.frame.todo.head.kind == 4 && (can & 1) != 0) {
                return depth.get(c.key) + 1;
            }
            if (c.frame.depth() > MOST_OPEN) {
                cutAt = Math.min(cutAt, depth.get(c.key));
                continue;
            }
            for (int value = 0; value <= 1; value++) {
                if ((can >> value & 1) == 0) {
                    continue;
                }
                Config to = next(c, value);
                if (to != null && !depth.containsKey(to.key)) {
                    if (depth.size() > MOST_FOUND) {
                        return -2;
                    }
                    depth.put(to.key, depth.get(c.key) + 1);
                    queue.add(to);
                }
            }
        }
        return cutAt == Integer.MAX_VALUE ? -1 : -2;
    }

    /** The first run, by its values, that fails in exactly so many steps. */
    private boolean firstRun(Config c, int steps, List<Config> configs, List<Integer> taken, Set<String> hopeless) {
        if (c == null || steps == 0 || hopeless.contains(steps + " " + c.key)) {
            return false;
        }
        int can = can(c);
        configs.add(c);
        for (int value = 0; value <= 1; value++) {
            if ((can >> value & 1) != 0) {
                taken.add(value);
                boolean fails = value == 0 && c.frame.todo.head.kind == 4;
                if (fails ? steps == 1 : firstRun(next(c, value), steps - 1, configs, taken, hopeless)) {
                    return true;
                }
                taken.remove(taken.size() - 1);
            }
        }
        configs.remove(configs.size() - 1);
        hopeless.add(steps + " " + c.key);
        return false;
    }

    private void oneProgram(int i) {
        makeProgram();
        StackPrograms x = new StackPrograms();
        String name = i + ": " + text + " ";
        due.is(name + "read", Due.read(x, text.toString()), statements.size());
        due.is(name + "globals", x.told(0, 0), globals);
        due.is(name + "procedures", x.told(1, 0), procedures.size());
        for (Statement s : statements) {
            due.is(name + "place", x.told(3, s.number), s.at);
            due.is(name + "procedure", x.told(4, s.number), s.procedure);
            due.is(name + "kind", x.told(5, s.number), s.kind);
        }
        Config start = new Config(new Frame(before(procedures.get(0), null), 0, null), 0);
        int want = search(start);
        int got = x.check();
        if (want == -2) {
            return;
        }
        due.is(name + "check", got, want);
        if (want < 0) {
            safe++;
            due.is(name + "trace", x.trace(0, 0), -1);
            return;
        }
        failing++;
        failingLate += want > 8 ? 1 : 0;
        compareTrace(x, name, start, want);
    }

    private void compareTrace(StackPrograms x, String name, Config start, int want) {
        List<Config> configs = new ArrayList<>();
        List<Integer> taken = new ArrayList<>();
        due.holds(name + "a run", firstRun(start, want, configs, taken, new HashSet<>()));
        boolean isDeep = false;
        for (int k = 0; k < want; k++) {
            Config c = configs.get(k);
            Statement s = c.frame.todo.head;
            due.is(name + "trace " + k + " 0", x.trace(k, 0), s.number);
            due.is(name + "trace " + k + " 1", x.trace(k, 1), c.frame.depth());
            due.is(name + "trace " + k + " 2", x.trace(k, 2), c.globals);
            due.is(name + "trace " + k + " 3", x.trace(k, 3), c.frame.locals);
            due.is(name + "trace " + k + " 4", x.trace(k, 4), s.exp == null ? -1 : taken.get(k));
            isDeep |= c.frame.depth() >= 2;
        }
        failingDeep += isDeep ? 1 : 0;
        due.is(name + "trace no more", x.trace(want, 0), -1);
    }
}
