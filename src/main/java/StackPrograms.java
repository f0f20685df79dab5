import java.util.Arrays;

/** Systems with a stack and programs of truth values, as the document DOC.md promises them. */
public final class StackPrograms {
    public static final int NONE = -1;
    public static final int BAD = -2;
    public static final int FULL = -3;

    private static final int STATES = 8;
    private static final int SIGNS = 12;
    private static final int NODES = 16;
    private static final int MOST_RULES = 48;
    private static final int MOST_ARCS = 64;
    private static final int MOST_WORD = 30;

    private static final int MOST_TEXT = 600;
    private static final int MOST_NAME = 8;
    private static final int MOST_GLOBALS = 3;
    private static final int MOST_LOCALS = 2;
    private static final int MOST_PROCEDURES = 6;
    private static final int MOST_STATEMENTS = 40;
    private static final int MOST_NESTED = 10;

    /** Step counts stop growing here: the document tells no more. */
    private static final int MOST_COUNTED = 1000000;
    /** The longest way or trace that is told step by step. */
    private static final int MOST_STEPS = 2000;
    /** A step count that stands for "no way at all"; twice it is still an int. */
    private static final int ENDLESS = 1 << 29;
    /** Far above the rounds that any fixed point here can need. */
    private static final int MOST_ROUNDS = 1000000;

    private final StackSystem system;
    private final Scanner scanner;
    private final Program program;
    private final Parser parser;
    // The large rows are made when first asked for, so that an object that asks for little stays small.
    private Distances distances;
    private Tower wordTower;
    private Way shortestWay;
    private Spread spread;
    private Checker checker;
    private Trace failingTrace;
    private boolean isChecked;
    private int checkAnswer;

    public StackPrograms() {
        system = new StackSystem();
        scanner = new Scanner();
        program = new Program();
        parser = new Parser(scanner, program);
    }

    // ---- systems

    public int rule(int p, int g, int q, int n, int w1, int w2) {
        if (!isState(p) || !isSign(g) || !isState(q) || n < 0 || n > 2) {
            return BAD;
        }
        if ((n >= 1 && !isSign(w1)) || (n == 2 && !isSign(w2))) {
            return BAD;
        }
        return system.addRule(p, g, q, n, w1, w2);
    }

    public int arc(int from, int sign, int to) {
        if (!isNode(from) || !isSign(sign) || !isNode(to) || to < STATES) {
            return BAD;
        }
        return system.addArc(from, sign, to);
    }

    public int end(int node, int is) {
        if (!isNode(node) || is < 0 || is > 1) {
            return BAD;
        }
        return system.setEnd(node, is);
    }

    public int clear() {
        return system.removeAll();
    }

    public int push(int sign) {
        return isSign(sign) ? system.addToWord(sign) : BAD;
    }

    public int drop() {
        return system.emptyWord();
    }

    public int lies(int state) {
        if (!isState(state)) {
            return BAD;
        }
        return system.holdsWord(state) ? 1 : 0;
    }

    public int far(int state) {
        if (!isState(state)) {
            return BAD;
        }
        int steps = stepsFrom(state);
        return steps < ENDLESS ? steps : NONE;
    }

    public int way(int state, int k) {
        if (!isState(state)) {
            return BAD;
        }
        if (shortestWay == null || !shortestWay.isOf(state)) {
            findWay(state, stepsFrom(state));
        }
        return shortestWay == null ? NONE : shortestWay.ruleAt(k);
    }

    public int after(int state) {
        if (!isState(state)) {
            return BAD;
        }
        if (spread == null) {
            spread = new Spread(system);
        }
        return spread.holdsWord(state) ? 1 : 0;
    }

    private int stepsFrom(int state) {
        if (distances == null) {
            distances = new Distances(system);
        }
        if (wordTower == null) {
            wordTower = new Tower(distances, MOST_WORD);
        }
        distances.bringUpToDate();
        wordTower.buildWord(system);
        return wordTower.stepsFrom(state);
    }

    private void findWay(int state, int steps) {
        if (shortestWay == null) {
            // A way of no steps, or of too many, needs no rows.
            if (distances == null || steps < 1 || steps > MOST_STEPS) {
                return;
            }
            shortestWay = new Way(system, distances);
        }
        shortestWay.find(state, steps);
    }

    // ---- programs

    public int type(long w, int n) {
        if (n < 1 || n > 8) {
            return BAD;
        }
        return scanner.addBytes(w, n);
    }

    public int read() {
        isChecked = false;
        parser.readProgram();
        return scanner.fault == 0 ? program.statements : -10 - scanner.fault;
    }

    public int place() {
        return scanner.fault == 0 ? NONE : scanner.faultAt;
    }

    public int told(int what, int k) {
        switch (what) {
            case 0:
                return program.globals;
            case 1:
                return program.procedures;
            case 2:
                return program.statements;
            default:
                return program.aboutStatement(what, k);
        }
    }

    public int check() {
        if (!program.isThere) {
            return BAD;
        }
        if (!isChecked) {
            checkAnswer = findFailure();
            isChecked = true;
        }
        return checkAnswer;
    }

    public int trace(int k, int what) {
        if (what < 0 || what > 4) {
            return BAD;
        }
        return failingTrace == null ? NONE : failingTrace.aboutStep(k, what);
    }

    private int findFailure() {
        if (checker == null) {
            checker = new Checker(program);
        }
        checker.solve();
        int steps = checker.stepsToFail();
        if (failingTrace != null) {
            failingTrace.forget();
        }
        if (steps > MOST_STEPS) {
            return steps < ENDLESS ? steps : NONE;
        }
        if (failingTrace == null) {
            failingTrace = new Trace(program, checker);
        }
        failingTrace.record(steps);
        return steps;
    }

    private static boolean isState(int number) {
        return number >= 0 && number < STATES;
    }

    private static boolean isSign(int number) {
        return number >= 0 && number < SIGNS;
    }

    private static boolean isNode(int number) {
        return number >= 0 && number < NODES;
    }

    /** Both are at most MOST_COUNTED or ENDLESS, and so is the answer. */
    private static int sum(int a, int b) {
        if (a >= ENDLESS || b >= ENDLESS) {
            return ENDLESS;
        }
        return Math.min(a + b, MOST_COUNTED);
    }

    /** The rules, the net that tells the set, and the word. */
    private static final class StackSystem {
        final int[] fromState = new int[MOST_RULES];
        final int[] fromSign = new int[MOST_RULES];
        final int[] toState = new int[MOST_RULES];
        final int[] size = new int[MOST_RULES];
        final int[] first = new int[MOST_RULES];
        final int[] second = new int[MOST_RULES];
        int rules;
        /** At node * SIGNS + sign the nodes that arcs lead to, as bits. */
        final int[] net = new int[NODES * SIGNS];
        int ends;
        /** The bottom first. */
        final int[] word = new int[MOST_WORD];
        int height;
        /** Grow with each change, so that others see whether what they found still holds. */
        int systemChanges;
        int wordChanges;
        private int arcs;

        int addRule(int p, int g, int q, int n, int w1, int w2) {
            if (rules >= MOST_RULES) {
                return FULL;
            }
            fromState[rules] = p;
            fromSign[rules] = g;
            toState[rules] = q;
            size[rules] = n;
            // What does not matter may be any number: it must not become an index.
            first[rules] = n >= 1 ? w1 : 0;
            second[rules] = n == 2 ? w2 : 0;
            systemChanges++;
            rules++;
            return rules - 1;
        }

        int addArc(int from, int sign, int to) {
            int at = from * SIGNS + sign;
            if ((net[at] >>> to & 1) != 0) {
                return arcs;
            }
            if (arcs >= MOST_ARCS) {
                return FULL;
            }
            net[at] |= 1 << to;
            systemChanges++;
            arcs++;
            return arcs;
        }

        int setEnd(int node, int is) {
            int was = ends >>> node & 1;
            if (was != is) {
                ends ^= 1 << node;
                systemChanges++;
            }
            return was;
        }

        int removeAll() {
            int had = rules;
            rules = 0;
            arcs = 0;
            ends = 0;
            Arrays.fill(net, 0);
            systemChanges++;
            return had;
        }

        int addToWord(int sign) {
            if (height >= MOST_WORD) {
                return FULL;
            }
            word[height] = sign;
            wordChanges++;
            height++;
            return height;
        }

        int emptyWord() {
            int had = height;
            height = 0;
            wordChanges++;
            return had;
        }

        boolean holdsWord(int state) {
            int nodes = 1 << state;
            for (int i = height - 1; i >= 0; i--) {
                nodes = nodesBehind(nodes, word[i]);
            }
            return (nodes & ends) != 0;
        }

        private int nodesBehind(int nodes, int sign) {
            int behind = 0;
            for (int node = 0; node < NODES; node++) {
                if ((nodes >>> node & 1) != 0) {
                    behind |= net[node * SIGNS + sign];
                }
            }
            return behind;
        }
    }

    /**
     * How few steps make a sign go from a state, by what the net then reads. From a state, by a
     * sign, to a state: the steps until the sign is gone and that state is there. To another node:
     * the steps until arcs lead to that node by all that has come in the sign's place.
     */
    private static final class Distances {
        final int[] cost = new int[NODES * SIGNS * NODES];
        private final StackSystem system;
        private int solvedAt = NONE;

        Distances(StackSystem system) {
            this.system = system;
        }

        static int row(int node, int sign) {
            return (node * SIGNS + sign) * NODES;
        }

        void bringUpToDate() {
            if (solvedAt == system.systemChanges) {
                return;
            }
            solvedAt = system.systemChanges;
            startFromNet();
            boolean lowered = true;
            for (int round = 0; round < MOST_ROUNDS && lowered; round++) {
                lowered = false;
                for (int r = 0; r < system.rules; r++) {
                    lowered |= useRule(r);
                }
            }
        }

        private void startFromNet() {
            for (int at = 0; at < NODES * SIGNS; at++) {
                for (int to = 0; to < NODES; to++) {
                    cost[at * NODES + to] = (system.net[at] >>> to & 1) != 0 ? 0 : ENDLESS;
                }
            }
        }

        private boolean useRule(int r) {
            int target = row(system.fromState[r], system.fromSign[r]);
            if (system.size[r] == 0) {
                return lower(target + system.toState[r], 1);
            }
            int source = row(system.toState[r], system.first[r]);
            if (system.size[r] == 1) {
                return lowerRow(target, source, 1);
            }
            boolean lowered = false;
            for (int middle = 0; middle < NODES; middle++) {
                int steps = cost[source + middle];
                if (steps < ENDLESS) {
                    lowered |= lowerRow(target, row(middle, system.second[r]), steps + 1);
                }
            }
            return lowered;
        }

        private boolean lowerRow(int target, int source, int more) {
            boolean lowered = false;
            for (int to = 0; to < NODES; to++) {
                if (cost[source + to] < ENDLESS) {
                    lowered |= lower(target + to, cost[source + to] + more);
                }
            }
            return lowered;
        }

        private boolean lower(int at, int steps) {
            int counted = Math.min(steps, MOST_COUNTED);
            if (counted >= cost[at]) {
                return false;
            }
            cost[at] = counted;
            return true;
        }
    }

    /** A stack of signs which knows, at each height, how far each node is from the set by what lies below. */
    private static final class Tower {
        private final Distances distances;
        private final int most;
        private final int[] signs;
        private final int[] steps;
        private int height;

        Tower(Distances distances, int most) {
            this.distances = distances;
            this.most = Math.max(most, 0);
            signs = new int[this.most];
            steps = new int[(this.most + 1) * NODES];
        }

        void buildWord(StackSystem system) {
            height = 0;
            for (int node = 0; node < NODES; node++) {
                steps[node] = (system.ends >>> node & 1) != 0 ? 0 : ENDLESS;
            }
            for (int i = 0; i < system.height; i++) {
                pile(system.word[i]);
            }
        }

        void pile(int sign) {
            if (height >= most) {
                return;
            }
            for (int node = 0; node < NODES; node++) {
                steps[(height + 1) * NODES + node] = stepsThrough(node, sign);
            }
            signs[height] = sign;
            height++;
        }

        /** The sign that was on top, or NONE. */
        int takeTop() {
            if (height <= 0) {
                return NONE;
            }
            height--;
            return signs[height];
        }

        int stepsFrom(int node) {
            return steps[height * NODES + node];
        }

        /** How far it would be from the state of rule r, if its signs were piled. */
        int stepsByRule(StackSystem system, int r) {
            int state = system.toState[r];
            if (system.size[r] == 0) {
                return stepsFrom(state);
            }
            if (system.size[r] == 1) {
                return stepsThrough(state, system.first[r]);
            }
            int row = Distances.row(state, system.first[r]);
            int least = ENDLESS;
            for (int node = 0; node < NODES; node++) {
                int first = distances.cost[row + node];
                // What is farther than the best already needs no look at the second sign.
                if (first < least) {
                    least = Math.min(least, sum(first, stepsThrough(node, system.second[r])));
                }
            }
            return least;
        }

        private int stepsThrough(int node, int sign) {
            int row = Distances.row(node, sign);
            int below = height * NODES;
            int least = ENDLESS;
            for (int next = 0; next < NODES; next++) {
                if (distances.cost[row + next] < least) {
                    least = Math.min(least, sum(distances.cost[row + next], steps[below + next]));
                }
            }
            return least;
        }
    }

    /** The way that was asked for last: it is asked for rule by rule, so it is kept. */
    private static final class Way {
        private final StackSystem system;
        private final Tower tower;
        private final int[] rules = new int[MOST_STEPS];
        private int length;
        private int fromState = NONE;
        private int foundAtSystem = NONE;
        private int foundAtWord = NONE;

        Way(StackSystem system, Distances distances) {
            this.system = system;
            // A step makes the stack higher by one sign at most.
            tower = new Tower(distances, MOST_WORD + MOST_STEPS);
        }

        boolean isOf(int state) {
            return fromState == state && foundAtSystem == system.systemChanges
                && foundAtWord == system.wordChanges;
        }

        int ruleAt(int k) {
            return k >= 0 && k < length ? rules[k] : NONE;
        }

        void find(int state, int steps) {
            fromState = state;
            foundAtSystem = system.systemChanges;
            foundAtWord = system.wordChanges;
            length = 0;
            if (steps > MOST_STEPS) {
                return;
            }
            tower.buildWord(system);
            int at = state;
            for (int k = 0; k < steps; k++) {
                int r = leastRule(at, tower.takeTop(), steps - k - 1);
                if (r == NONE) {
                    return;
                }
                rules[k] = r;
                length++;
                at = system.toState[r];
                pileSigns(r);
            }
        }

        private int leastRule(int state, int sign, int stepsLeft) {
            for (int r = 0; r < system.rules; r++) {
                if (system.fromState[r] == state && system.fromSign[r] == sign
                    && tower.stepsByRule(system, r) == stepsLeft) {
                    return r;
                }
            }
            return NONE;
        }

        private void pileSigns(int r) {
            if (system.size[r] == 2) {
                tower.pile(system.second[r]);
            }
            if (system.size[r] >= 1) {
                tower.pile(system.first[r]);
            }
        }
    }

    /**
     * A net of all that the set can come to. Behind the nodes of the set's net it has one for each
     * rule of two signs, between the first of them and the second: 64 at most, so a long has them
     * as bits.
     */
    private static final class Spread {
        private final StackSystem system;
        private final long[] net = new long[(NODES + MOST_RULES) * SIGNS];
        /** The nodes that a state can be at without a sign. */
        private final long[] silent = new long[STATES];
        private int solvedAt = NONE;

        Spread(StackSystem system) {
            this.system = system;
        }

        boolean holdsWord(int state) {
            bringUpToDate();
            long nodes = 1L << state | silent[state];
            for (int i = system.height - 1; i >= 0; i--) {
                nodes = nodesBehind(nodes, system.word[i]);
            }
            return (nodes & system.ends) != 0;
        }

        private void bringUpToDate() {
            if (solvedAt == system.systemChanges) {
                return;
            }
            solvedAt = system.systemChanges;
            Arrays.fill(net, 0);
            Arrays.fill(silent, 0);
            for (int at = 0; at < NODES * SIGNS; at++) {
                net[at] = system.net[at];
            }
            boolean grown = true;
            for (int round = 0; round < MOST_ROUNDS && grown; round++) {
                grown = false;
                for (int r = 0; r < system.rules; r++) {
                    grown |= useRule(r);
                }
            }
        }

        private boolean useRule(int r) {
            int p = system.fromState[r];
            long behind = nodesBehind(1L << p | silent[p], system.fromSign[r]);
            if (behind == 0) {
                return false;
            }
            int q = system.toState[r];
            if (system.size[r] == 0) {
                long had = silent[q];
                silent[q] |= behind;
                return silent[q] != had;
            }
            int at = q * SIGNS + system.first[r];
            if (system.size[r] == 1) {
                return addArcs(at, behind);
            }
            int middle = NODES + r;
            boolean grown = addArcs(at, 1L << middle);
            return addArcs(middle * SIGNS + system.second[r], behind) || grown;
        }

        private boolean addArcs(int at, long nodes) {
            long had = net[at];
            net[at] |= nodes;
            return net[at] != had;
        }

        private long nodesBehind(long nodes, int sign) {
            long behind = 0;
            for (int node = 0; node < NODES + MOST_RULES; node++) {
                if ((nodes >>> node & 1) != 0) {
                    behind |= net[node * SIGNS + sign];
                }
            }
            return behind;
        }
    }

    /** The text and its tokens, one at a time, and the first fault that was found in it. */
    private static final class Scanner {
        // A token of one byte is that byte; the others lie above all bytes.
        static final int TEXT_END = 256;
        static final int BROKEN = 257;
        static final int NAME = 258;
        static final int VAR = 259;
        static final int PROC = 260;
        static final int ELSE = 261;
        /** The first of the words that begin a statement: they stand as told(5, ..) numbers them from 1 on. */
        static final int IF = 262;
        static final int SKIP = 268;

        static final int UNKNOWN_BYTE = 1;
        static final int OUT_OF_PLACE = 2;
        static final int NOT_ALLOWED = 3;
        static final int NO_PROCEDURE = 4;

        private static final String MARKS = "01*=;,{}()!&|";
        /** var proc else if while call assert assume return skip: each word's bytes, the first one lowest. */
        private static final long[] WORDS = {
            0x726176L, 0x636f7270L, 0x65736c65L, 0x6669L, 0x656c696877L,
            0x6c6c6163L, 0x747265737361L, 0x656d75737361L, 0x6e7275746572L, 0x70696b73L
        };

        int token;
        int tokenAt;
        /** The bytes of the latest name, the first one lowest. */
        long name;
        int fault;
        int faultAt;
        private final byte[] text = new byte[MOST_TEXT];
        private int size;
        private int next;

        int addBytes(long bytes, int count) {
            if (size + count > MOST_TEXT) {
                return FULL;
            }
            for (int i = 0; i < count; i++) {
                text[size] = (byte) (bytes >>> 8 * i);
                size++;
            }
            return size;
        }

        void begin() {
            next = 0;
            fault = 0;
            advance();
        }

        void emptyText() {
            size = 0;
        }

        /** A broken token can stand nowhere, so all that reads on comes to its end at once. */
        void fail(int number, int at) {
            if (fault == 0) {
                fault = number;
                faultAt = at;
            }
            token = BROKEN;
        }

        void failHere(int number) {
            fail(number, tokenAt);
        }

        boolean skipToken(int wanted) {
            if (token != wanted) {
                failHere(OUT_OF_PLACE);
                return false;
            }
            advance();
            return true;
        }

        void advance() {
            if (fault != 0) {
                return;
            }
            while (next < size && (text[next] == 32 || text[next] == 10)) {
                next++;
            }
            tokenAt = next;
            if (next >= size) {
                token = TEXT_END;
                return;
            }
            int mark = text[next] & 0xFF;
            if (isLetter(mark)) {
                scanWord();
            } else if (MARKS.indexOf((char) mark) >= 0) {
                token = mark;
                next++;
            } else {
                fail(UNKNOWN_BYTE, tokenAt);
            }
        }

        private void scanWord() {
            name = 0;
            while (next < size && (isLetter(text[next]) || isDigit(text[next]))) {
                int length = next - tokenAt;
                if (length < MOST_NAME) {
                    name |= (long) text[next] << 8 * length;
                }
                next++;
            }
            if (next - tokenAt > MOST_NAME) {
                fail(UNKNOWN_BYTE, tokenAt);
                return;
            }
            token = NAME;
            for (int i = 0; i < WORDS.length; i++) {
                if (WORDS[i] == name) {
                    token = VAR + i;
                }
            }
        }

        private static boolean isLetter(int mark) {
            return mark >= 'a' && mark <= 'z';
        }

        private static boolean isDigit(int mark) {
            return mark >= '0' && mark <= '9';
        }
    }

    /**
     * What was read: its statements and where each goes on. What the variables are is a number of
     * five bits: the globals are the lower three, the locals of the latest call the upper two.
     */
    private static final class Program {
        static final int ASSIGN = 0;
        static final int IF = 1;
        static final int WHILE = 2;
        static final int CALL = 3;
        static final int ASSERT = 4;
        static final int ASSUME = 5;
        static final int RETURN = 6;

        // Points that are no statement.
        static final int OUT = -1;
        static final int FAILED = -2;
        static final int STOPPED = -3;

        static final int SETTINGS = 1 << (MOST_GLOBALS + MOST_LOCALS);
        static final int GLOBAL_SETTINGS = 1 << MOST_GLOBALS;
        static final int GLOBAL_BITS = GLOBAL_SETTINGS - 1;
        static final int LOCAL_BITS = SETTINGS - GLOBAL_SETTINGS;

        /** Of an expression: bit s says that with the setting s it can be 0, bit 32 + s that it can be 1. */
        static final long ALWAYS_0 = 0xFFFFFFFFL;
        static final long ALWAYS_1 = ~ALWAYS_0;

        boolean isThere;
        int globals;
        int procedures;
        int statements;
        final int[] entry = new int[MOST_PROCEDURES];
        final int[] kind = new int[MOST_STATEMENTS];
        final int[] textAt = new int[MOST_STATEMENTS];
        final int[] owner = new int[MOST_STATEMENTS];
        final long[] value = new long[MOST_STATEMENTS];
        final int[] variable = new int[MOST_STATEMENTS];
        final int[] callee = new int[MOST_STATEMENTS];
        /** Where a statement goes on that took 0, or 1; those without a value are as if they took 1. */
        final int[] on0 = new int[MOST_STATEMENTS];
        final int[] on1 = new int[MOST_STATEMENTS];
        // How the statements lie in the text: NONE where there is no such statement.
        final int[] parent = new int[MOST_STATEMENTS];
        final int[] sibling = new int[MOST_STATEMENTS];
        final int[] inside = new int[MOST_STATEMENTS];
        final int[] insideElse = new int[MOST_STATEMENTS];
        private final int[] behind = new int[MOST_STATEMENTS];

        void removeAll() {
            isThere = false;
            globals = 0;
            procedures = 0;
            statements = 0;
        }

        /** The statement's number; NONE if there are too many. */
        int addStatement(int itsKind, int at, int itsParent) {
            if (statements >= MOST_STATEMENTS) {
                return NONE;
            }
            int s = statements;
            kind[s] = itsKind;
            textAt[s] = at;
            owner[s] = procedures - 1;
            value[s] = ALWAYS_1;
            variable[s] = 0;
            callee[s] = 0;
            parent[s] = itsParent;
            sibling[s] = NONE;
            inside[s] = NONE;
            insideElse[s] = NONE;
            statements++;
            return s;
        }

        int aboutStatement(int what, int s) {
            if (s < 0 || s >= statements) {
                return BAD;
            }
            switch (what) {
                case 3:
                    return textAt[s];
                case 4:
                    return owner[s];
                case 5:
                    return kind[s];
                default:
                    return BAD;
            }
        }

        void link() {
            // A parent comes before what lies in it: its own point behind is known then.
            for (int s = 0; s < statements; s++) {
                behind[s] = pointBehind(s);
                on1[s] = kind[s] == RETURN ? OUT : behind[s];
                on0[s] = behind[s];
                if (kind[s] == IF) {
                    on1[s] = inside[s] == NONE ? behind[s] : inside[s];
                    on0[s] = insideElse[s] == NONE ? behind[s] : insideElse[s];
                } else if (kind[s] == WHILE) {
                    on1[s] = inside[s] == NONE ? s : inside[s];
                } else if (kind[s] == ASSERT) {
                    on0[s] = FAILED;
                } else if (kind[s] == ASSUME) {
                    on0[s] = STOPPED;
                }
            }
        }

        private int pointBehind(int s) {
            if (sibling[s] != NONE) {
                return sibling[s];
            }
            int around = parent[s];
            if (around == NONE) {
                return OUT;
            }
            return kind[around] == WHILE ? around : behind[around];
        }

        int firstPoint() {
            return procedures > 0 ? entry[0] : OUT;
        }

        /** The settings, as bits, with which statement s can take the value. */
        int settingsFor(int s, int taken) {
            return (int) (taken == 0 ? value[s] : value[s] >>> 32);
        }

        int pointAfter(int s, int taken) {
            return taken == 0 ? on0[s] : on1[s];
        }

        int settingAfter(int s, int setting, int taken) {
            if (kind[s] != ASSIGN) {
                return setting;
            }
            int bit = 1 << variable[s];
            return taken == 0 ? setting & ~bit : setting | bit;
        }

        boolean takesValue(int s) {
            return kind[s] != CALL && kind[s] <= ASSUME;
        }
    }

    /** Reads the text into the program, with one token seen ahead: a token is judged before it is left behind. */
    private static final class Parser {
        /** At bit v the settings in which variable v is 1. */
        private static final int[] SET_BITS = {0xAAAAAAAA, 0xCCCCCCCC, 0xF0F0F0F0, 0xFF00FF00, 0xFFFF0000};

        private final Scanner scanner;
        private final Program program;
        /** The names, each at the number of its bit in a setting. */
        private final long[] variables = new long[MOST_GLOBALS + MOST_LOCALS];
        private int locals;
        private final long[] procedures = new long[MOST_PROCEDURES];
        private final long[] calledName = new long[MOST_STATEMENTS];
        private final int[] calledAt = new int[MOST_STATEMENTS];

        Parser(Scanner scanner, Program program) {
            this.scanner = scanner;
            this.program = program;
        }

        void readProgram() {
            program.removeAll();
            locals = 0;
            scanner.begin();
            if (scanner.token == Scanner.VAR) {
                readVariables(false);
            }
            readProcedure();
            for (int i = 0; i < MOST_PROCEDURES && scanner.token == Scanner.PROC; i++) {
                readProcedure();
            }
            if (scanner.token != Scanner.TEXT_END) {
                scanner.failHere(Scanner.OUT_OF_PLACE);
            }
            findCalled();
            scanner.emptyText();
            if (scanner.fault != 0) {
                program.removeAll();
                return;
            }
            program.link();
            program.isThere = true;
        }

        private void readVariables(boolean areLocal) {
            scanner.advance();
            readVariable(areLocal);
            for (int i = 0; i < MOST_GLOBALS && scanner.token == ','; i++) {
                scanner.advance();
                readVariable(areLocal);
            }
            scanner.skipToken(';');
        }

        private void readVariable(boolean isLocal) {
            if (scanner.token != Scanner.NAME) {
                scanner.failHere(Scanner.OUT_OF_PLACE);
                return;
            }
            boolean isFull = isLocal ? locals >= MOST_LOCALS : program.globals >= MOST_GLOBALS;
            if (isFull || findVariable(scanner.name) != NONE) {
                scanner.failHere(Scanner.NOT_ALLOWED);
                return;
            }
            if (isLocal) {
                variables[MOST_GLOBALS + locals] = scanner.name;
                locals++;
            } else {
                variables[program.globals] = scanner.name;
                program.globals++;
            }
            scanner.advance();
        }

        private void readProcedure() {
            if (!scanner.skipToken(Scanner.PROC)) {
                return;
            }
            if (scanner.token != Scanner.NAME) {
                scanner.failHere(Scanner.OUT_OF_PLACE);
                return;
            }
            int number = program.procedures;
            if (number >= MOST_PROCEDURES || findProcedure(scanner.name) != NONE) {
                scanner.failHere(Scanner.NOT_ALLOWED);
                return;
            }
            procedures[number] = scanner.name;
            program.procedures++;
            locals = 0;
            scanner.advance();
            readOpenBrace(0);
            if (scanner.token == Scanner.VAR) {
                readVariables(true);
            }
            int first = readStatements(NONE, 1);
            program.entry[number] = first == NONE ? Program.OUT : first;
            scanner.skipToken('}');
        }

        /** open: how many braces are open already. */
        private void readOpenBrace(int open) {
            if (scanner.token == '{' && open >= MOST_NESTED) {
                scanner.failHere(Scanner.NOT_ALLOWED);
                return;
            }
            scanner.skipToken('{');
        }

        /** The first statement's number; NONE if there is none. */
        private int readStatements(int parent, int open) {
            int first = NONE;
            int last = NONE;
            for (int i = 0; i <= MOST_STATEMENTS && beginsStatement(); i++) {
                int s = readStatement(parent, open);
                if (s == NONE) {
                    return first;
                }
                if (last == NONE) {
                    first = s;
                } else {
                    program.sibling[last] = s;
                }
                last = s;
            }
            return first;
        }

        private boolean beginsStatement() {
            return scanner.token == Scanner.NAME
                || (scanner.token >= Scanner.IF && scanner.token <= Scanner.SKIP);
        }

        private int readStatement(int parent, int open) {
            int kind = scanner.token == Scanner.NAME ? Program.ASSIGN : Program.IF + scanner.token - Scanner.IF;
            int s = program.addStatement(kind, scanner.tokenAt, parent);
            if (s == NONE) {
                scanner.failHere(Scanner.NOT_ALLOWED);
                return NONE;
            }
            if (kind == Program.IF || kind == Program.WHILE) {
                readBranch(s, open);
                return s;
            }
            if (kind == Program.ASSIGN) {
                readAssignment(s);
            } else {
                scanner.advance();
                if (kind == Program.CALL) {
                    readCalled(s);
                } else if (kind == Program.ASSERT || kind == Program.ASSUME) {
                    program.value[s] = readExpression(0);
                }
            }
            scanner.skipToken(';');
            return s;
        }

        private void readBranch(int s, int open) {
            scanner.advance();
            program.value[s] = readExpression(0);
            program.inside[s] = readBlock(s, open);
            if (program.kind[s] == Program.IF && scanner.token == Scanner.ELSE) {
                scanner.advance();
                program.insideElse[s] = readBlock(s, open);
            }
        }

        private int readBlock(int parent, int open) {
            readOpenBrace(open);
            if (open >= MOST_NESTED) {
                return NONE;
            }
            int first = readStatements(parent, open + 1);
            scanner.skipToken('}');
            return first;
        }

        private void readAssignment(int s) {
            int number = findVariable(scanner.name);
            if (number == NONE) {
                scanner.failHere(Scanner.NOT_ALLOWED);
                return;
            }
            program.variable[s] = number;
            scanner.advance();
            if (scanner.skipToken('=')) {
                program.value[s] = readExpression(0);
            }
        }

        private void readCalled(int s) {
            // The procedure may stand farther on in the text.
            calledName[s] = scanner.name;
            calledAt[s] = scanner.tokenAt;
            scanner.skipToken(Scanner.NAME);
        }

        private void findCalled() {
            for (int s = 0; s < program.statements && scanner.fault == 0; s++) {
                if (program.kind[s] == Program.CALL) {
                    program.callee[s] = findProcedure(calledName[s]);
                    if (program.callee[s] == NONE) {
                        scanner.fail(Scanner.NO_PROCEDURE, calledAt[s]);
                    }
                }
            }
        }

        private long readExpression(int depth) {
            long value = readTerm(depth);
            for (int i = 0; i < MOST_TEXT && scanner.token == '|'; i++) {
                scanner.advance();
                long other = readTerm(depth);
                value = (value & other & Program.ALWAYS_0) | ((value | other) & Program.ALWAYS_1);
            }
            return value;
        }

        private long readTerm(int depth) {
            long value = readFactor(depth);
            for (int i = 0; i < MOST_TEXT && scanner.token == '&'; i++) {
                scanner.advance();
                long other = readFactor(depth);
                value = (value & other & Program.ALWAYS_1) | ((value | other) & Program.ALWAYS_0);
            }
            return value;
        }

        /** depth: in how many ( and ! it lies. */
        private long readFactor(int depth) {
            switch (scanner.token) {
                case '0':
                    scanner.advance();
                    return Program.ALWAYS_0;
                case '1':
                    scanner.advance();
                    return Program.ALWAYS_1;
                case '*':
                    scanner.advance();
                    return Program.ALWAYS_0 | Program.ALWAYS_1;
                case Scanner.NAME:
                    return readVariableValue();
                case '!':
                case '(':
                    return readNested(depth);
                default:
                    scanner.failHere(Scanner.OUT_OF_PLACE);
                    return 0;
            }
        }

        private long readVariableValue() {
            int number = findVariable(scanner.name);
            if (number == NONE) {
                scanner.failHere(Scanner.NOT_ALLOWED);
                return 0;
            }
            scanner.advance();
            long ones = (long) SET_BITS[number] << 32;
            return ones | (~ones >>> 32);
        }

        private long readNested(int depth) {
            if (depth >= MOST_NESTED) {
                scanner.failHere(Scanner.NOT_ALLOWED);
                return 0;
            }
            boolean isNot = scanner.token == '!';
            scanner.advance();
            if (isNot) {
                long turned = readFactor(depth + 1);
                return turned << 32 | turned >>> 32;
            }
            long value = readExpression(depth + 1);
            scanner.skipToken(')');
            return value;
        }

        private int findVariable(long name) {
            for (int i = 0; i < program.globals; i++) {
                if (variables[i] == name) {
                    return i;
                }
            }
            for (int i = MOST_GLOBALS; i < MOST_GLOBALS + locals; i++) {
                if (variables[i] == name) {
                    return i;
                }
            }
            return NONE;
        }

        private int findProcedure(long name) {
            for (int i = 0; i < program.procedures; i++) {
                if (procedures[i] == name) {
                    return i;
                }
            }
            return NONE;
        }
    }

    /**
     * From each statement with each setting: how few steps until its call has ended, for each
     * setting of the globals then, and how few until the run has failed with that call still open.
     */
    private static final class Checker {
        /** The column behind those of the globals: to fail. */
        static final int FAIL = Program.GLOBAL_SETTINGS;
        private static final int COLUMNS = FAIL + 1;

        final int[] cost = new int[MOST_STATEMENTS * Program.SETTINGS * COLUMNS];
        private final Program program;
        /** The settings, as bits, that can come to a statement (perhaps some more: returns are not told apart). */
        private final int[] reached = new int[MOST_STATEMENTS];
        /** The settings of the globals, as bits, with which calls of a procedure can end. */
        private final int[] exits = new int[MOST_PROCEDURES];
        // When a statement's rows were last lowered, and when it was last looked at.
        private final int[] loweredAt = new int[MOST_STATEMENTS];
        private final int[] lookedAt = new int[MOST_STATEMENTS];
        private int looks;

        Checker(Program program) {
            this.program = program;
        }

        static int row(int s, int setting) {
            return (s * Program.SETTINGS + setting) * COLUMNS;
        }

        int stepsToFail() {
            int first = program.firstPoint();
            return first < 0 ? ENDLESS : cost[row(first, 0) + FAIL];
        }

        void solve() {
            reachAll();
            int used = row(program.statements, 0);
            for (int at = 0; at < used; at++) {
                cost[at] = ENDLESS;
            }
            Arrays.fill(loweredAt, 0);
            Arrays.fill(lookedAt, 0);
            looks = 0;
            boolean lowered = true;
            for (int round = 0; round < MOST_ROUNDS && lowered; round++) {
                lowered = false;
                // Backwards, since a statement's steps come from those behind it.
                for (int s = program.statements - 1; s >= 0; s--) {
                    lowered |= isStale(s) && lookAt(s);
                }
            }
        }

        private void reachAll() {
            Arrays.fill(reached, 0);
            Arrays.fill(exits, 0);
            int first = program.firstPoint();
            if (first < 0) {
                return;
            }
            reached[first] = 1;
            boolean grown = true;
            for (int round = 0; round < MOST_ROUNDS && grown; round++) {
                grown = false;
                for (int s = 0; s < program.statements; s++) {
                    grown |= program.kind[s] == Program.CALL ? reachByCall(s) : reachFrom(s);
                }
            }
        }

        private boolean reachFrom(int s) {
            boolean grown = false;
            for (int taken = 0; taken <= 1; taken++) {
                int before = reached[s] & program.settingsFor(s, taken);
                int then = 0;
                for (int setting = 0; before != 0 && setting < Program.SETTINGS; setting++) {
                    if ((before >>> setting & 1) != 0) {
                        then |= 1 << program.settingAfter(s, setting, taken);
                    }
                }
                grown |= reachPoint(program.pointAfter(s, taken), then, program.owner[s]);
            }
            return grown;
        }

        private boolean reachByCall(int s) {
            int called = program.callee[s];
            int point = program.pointAfter(s, 1);
            int first = program.entry[called];
            if (first < 0) {
                return reachPoint(point, reached[s], program.owner[s]);
            }
            boolean grown = reachPoint(first, globalsOf(reached[s]), called);
            int back = 0;
            for (int locals = 0; locals < Program.SETTINGS; locals += Program.GLOBAL_SETTINGS) {
                if ((reached[s] >>> locals & 0xFF) != 0) {
                    back |= exits[called] << locals;
                }
            }
            return reachPoint(point, back, program.owner[s]) || grown;
        }

        private boolean reachPoint(int point, int settings, int procedure) {
            if (point >= 0) {
                int had = reached[point];
                reached[point] |= settings;
                return reached[point] != had;
            }
            if (point != Program.OUT) {
                return false;
            }
            int had = exits[procedure];
            exits[procedure] |= globalsOf(settings);
            return exits[procedure] != had;
        }

        /** The settings of the globals, as bits, in the settings. */
        private static int globalsOf(int settings) {
            return (settings | settings >>> 8 | settings >>> 16 | settings >>> 24) & 0xFF;
        }

        private boolean isStale(int s) {
            if (lookedAt[s] == 0 || isNewer(program.on0[s], s) || isNewer(program.on1[s], s)) {
                return true;
            }
            return program.kind[s] == Program.CALL && isNewer(program.entry[program.callee[s]], s);
        }

        private boolean isNewer(int point, int s) {
            return point >= 0 && loweredAt[point] >= lookedAt[s];
        }

        private boolean lookAt(int s) {
            looks++;
            lookedAt[s] = looks;
            boolean isCall = program.kind[s] == Program.CALL;
            boolean lowered = false;
            for (int setting = 0; setting < Program.SETTINGS; setting++) {
                if ((reached[s] >>> setting & 1) != 0) {
                    lowered |= isCall ? lowerByCall(s, setting) : lowerByStep(s, setting);
                }
            }
            if (lowered) {
                loweredAt[s] = looks;
            }
            return lowered;
        }

        private boolean lowerByStep(int s, int setting) {
            boolean lowered = false;
            for (int taken = 0; taken <= 1; taken++) {
                if ((program.settingsFor(s, taken) >>> setting & 1) != 0) {
                    int then = program.settingAfter(s, setting, taken);
                    lowered |= lowerRow(row(s, setting), program.pointAfter(s, taken), then, 1);
                }
            }
            return lowered;
        }

        private boolean lowerByCall(int s, int setting) {
            int target = row(s, setting);
            int point = program.pointAfter(s, 1);
            int first = program.entry[program.callee[s]];
            if (first < 0) {
                return lowerRow(target, point, setting, 1);
            }
            int called = row(first, setting & Program.GLOBAL_BITS);
            int locals = setting & Program.LOCAL_BITS;
            boolean lowered = lower(target + FAIL, cost[called + FAIL] + 1);
            for (int globals = 0; globals < Program.GLOBAL_SETTINGS; globals++) {
                int steps = cost[called + globals];
                if (steps < ENDLESS) {
                    lowered |= lowerRow(target, point, locals | globals, steps + 1);
                }
            }
            return lowered;
        }

        /** A row is no higher than that of the point with the setting and some steps more. */
        private boolean lowerRow(int target, int point, int setting, int more) {
            if (point == Program.OUT) {
                return lower(target + (setting & Program.GLOBAL_BITS), more);
            }
            if (point == Program.FAILED) {
                return lower(target + FAIL, more);
            }
            if (point < 0) {
                return false;
            }
            int source = row(point, setting);
            boolean lowered = false;
            for (int column = 0; column < COLUMNS; column++) {
                lowered |= lower(target + column, cost[source + column] + more);
            }
            return lowered;
        }

        private boolean lower(int at, int steps) {
            if (steps >= ENDLESS) {
                return false;
            }
            int counted = Math.min(steps, MOST_COUNTED);
            if (counted >= cost[at]) {
                return false;
            }
            cost[at] = counted;
            return true;
        }
    }

    /** The run that fails, step by step; it stays when another program is read. */
    private static final class Trace {
        private final Program program;
        private final Checker checker;
        private final int[] statement = new int[MOST_STEPS];
        private final int[] calls = new int[MOST_STEPS];
        private final int[] settings = new int[MOST_STEPS];
        private final int[] values = new int[MOST_STEPS];
        private int length;
        // The open calls: where and with what locals the one below goes on, and how far it is to fail
        // for each setting of the globals with which the call ends.
        private final int[] backPoint = new int[MOST_STEPS + 1];
        private final int[] backLocals = new int[MOST_STEPS + 1];
        private final int[] stepsBelow = new int[(MOST_STEPS + 1) * Program.GLOBAL_SETTINGS];
        private int open;
        private int point;
        private int setting;

        Trace(Program program, Checker checker) {
            this.program = program;
            this.checker = checker;
        }

        void forget() {
            length = 0;
        }

        int aboutStep(int k, int what) {
            if (k < 0 || k >= length) {
                return NONE;
            }
            switch (what) {
                case 0:
                    return statement[k];
                case 1:
                    return calls[k];
                case 2:
                    return settings[k] & Program.GLOBAL_BITS;
                case 3:
                    return settings[k] >>> MOST_GLOBALS;
                default:
                    return values[k];
            }
        }

        void record(int steps) {
            length = 0;
            open = 0;
            point = program.firstPoint();
            setting = 0;
            for (int globals = 0; globals < Program.GLOBAL_SETTINGS; globals++) {
                stepsBelow[globals] = ENDLESS;
            }
            for (int k = 0; k < steps && k < MOST_STEPS && point >= 0; k++) {
                statement[k] = point;
                calls[k] = open + 1;
                settings[k] = setting;
                values[k] = NONE;
                length++;
                if (program.kind[point] == Program.CALL) {
                    openCall(point);
                } else {
                    takeStep(k, steps - k - 1);
                }
                leaveEndedCalls();
            }
        }

        private void takeStep(int k, int stepsLeft) {
            int s = point;
            for (int taken = 0; taken <= 1; taken++) {
                boolean can = (program.settingsFor(s, taken) >>> setting & 1) != 0;
                int then = program.settingAfter(s, setting, taken);
                if (can && stepsToFail(program.pointAfter(s, taken), then) == stepsLeft) {
                    values[k] = program.takesValue(s) ? taken : NONE;
                    setting = then;
                    point = program.pointAfter(s, taken);
                    return;
                }
            }
            point = Program.STOPPED;
        }

        private int stepsToFail(int from, int with) {
            int below = open * Program.GLOBAL_SETTINGS;
            if (from == Program.OUT) {
                return stepsBelow[below + (with & Program.GLOBAL_BITS)];
            }
            if (from < 0) {
                return from == Program.FAILED ? 0 : ENDLESS;
            }
            int row = Checker.row(from, with);
            int least = checker.cost[row + Checker.FAIL];
            for (int globals = 0; globals < Program.GLOBAL_SETTINGS; globals++) {
                least = Math.min(least, sum(checker.cost[row + globals], stepsBelow[below + globals]));
            }
            return least;
        }

        private void openCall(int s) {
            int back = program.pointAfter(s, 1);
            int locals = setting & Program.LOCAL_BITS;
            int above = (open + 1) * Program.GLOBAL_SETTINGS;
            if (open >= MOST_STEPS) {
                return;
            }
            for (int globals = 0; globals < Program.GLOBAL_SETTINGS; globals++) {
                stepsBelow[above + globals] = stepsToFail(back, locals | globals);
            }
            open++;
            backPoint[open] = back;
            backLocals[open] = locals;
            setting &= Program.GLOBAL_BITS;
            point = program.entry[program.callee[s]];
        }

        private void leaveEndedCalls() {
            while (point == Program.OUT && open > 0) {
                point = backPoint[open];
                setting = (setting & Program.GLOBAL_BITS) | backLocals[open];
                open--;
            }
        }
    }
}
