/**
 * The sentences of part 1 and of promises 1 to 11 that name a boundary, each with a test of its own: the last that is
 * taken, the first that is refused, and what the calls behind a refused one answer.
 */
final class SystemBoundsTest {
    private static final int NONE = StackPrograms.NONE;
    private static final int BAD = StackPrograms.BAD;
    private static final int FULL = StackPrograms.FULL;
    // Some of them would be good numbers again, were only their lower bits looked at.
    private static final int[] NO_STATE = {Integer.MIN_VALUE, -8, -1, 8, 16, 32, 256, Integer.MAX_VALUE};
    private static final int[] NO_SIGN = {Integer.MIN_VALUE, -12, -1, 12, 16, 32, 256, Integer.MAX_VALUE};
    private static final int[] NO_NODE = {Integer.MIN_VALUE, -16, -1, 16, 32, 256, Integer.MAX_VALUE};
    private static final int[] ANY = {Integer.MIN_VALUE, -1, 0, 11, 12, Integer.MAX_VALUE};

    private final Due due = new Due("SystemBoundsTest");

    public static void main(String[] args) {
        SystemBoundsTest test = new SystemBoundsTest();
        test.newObject();
        test.rules();
        test.nets();
        test.words();
        test.waysTo();
        test.waysFrom();
        test.manyCalls();
        test.due.close();
    }

    private void newObject() {
        newHasNoRules();
        newHasNoArcs();
        newHasNoEnds();
        newHasAnEmptyWord();
        newObjectsAreApart();
    }

    private void rules() {
        statesOfRules();
        signsOfRules();
        howManySignsOfRules();
        signsBeyondDoNotMatter();
        signsComeInPlace();
        fortyEightRules();
        rulesAlike();
        refusedRulesDoNothing();
    }

    private void nets() {
        nodesOfArcs();
        signsOfArcs();
        arcsToStates();
        noTwoArcsAlike();
        sixtyFourArcs();
        refusedArcsDoNothing();
        nodesOfEnds();
        endsAreOrNot();
        statesAsEnds();
        clearAnswers();
        clearLeavesNothing();
        clearLeavesNoEnd();
        clearThenAnEndAlone();
        clearLeavesNothingBehind();
        clearLeavesTheRest();
    }

    private void words() {
        signsOfWords();
        thirtySigns();
        refusedSignsDoNothing();
        dropAnswers();
        dropLeavesTheRest();
        statesOfLies();
        wordWithoutSigns();
        wordOfThirtySigns();
    }

    private void waysTo() {
        statesOfFar();
        farByNoSteps();
        farWithoutAWay();
        farInAMillionSteps();
        farInMoreThanAnIntCounts();
        statesOfWay();
        numbersOfWay();
        wayOfNoSteps();
        wayOfTwoThousandSteps();
        wayOfOneMoreStep();
        wayFromThirtySigns();
        stacksGrowAsHighAsNeeded();
        eachChangeCounts();
    }

    private void waysFrom() {
        statesOfAfter();
        afterNoSteps();
        afterManySteps();
        afterABranchThatJoinsLate();
        afterAnEmptyStack();
        afterThirtySigns();
        afterByTheLastRule();
    }

    private void manyCalls() {
        fiveHundredAndTwelveWordCalls();
        fiveHundredAndTwelveSystemCalls();
    }

    private static void word(StackPrograms x, int... signs) {
        x.drop();
        for (int sign : signs) {
            x.push(sign);
        }
    }

    private static void pushAgain(StackPrograms x, int sign, int times) {
        for (int i = 0; i < times; i++) {
            x.push(sign);
        }
    }

    // ---- promise 1

    private void newHasNoRules() {
        due.by("a new object: no rules");
        StackPrograms x = new StackPrograms();
        for (int state = 0; state < 8; state++) {
            x.end(state, 1);
        }
        for (int sign = 0; sign < 12; sign++) {
            word(x, sign);
            for (int state = 0; state < 8; state++) {
                due.is("far", x.far(state), NONE);
            }
        }
        due.is("clear", x.clear(), 0);
        due.is("the first rule", x.rule(0, 0, 0, 0, 0, 0), 0);
    }

    private void newHasNoArcs() {
        due.by("a new object: no arcs");
        StackPrograms x = new StackPrograms();
        for (int node = 0; node < 16; node++) {
            x.end(node, 1);
        }
        for (int sign = 0; sign < 12; sign++) {
            word(x, sign);
            for (int state = 0; state < 8; state++) {
                due.is("lies", x.lies(state), 0);
            }
        }
        due.is("the first arc", x.arc(0, 0, 8), 1);
    }

    private void newHasNoEnds() {
        due.by("a new object: no ends");
        StackPrograms x = new StackPrograms();
        for (int state = 0; state < 8; state++) {
            due.is("lies", x.lies(state), 0);
            due.is("far", x.far(state), NONE);
            due.is("way", x.way(state, 0), NONE);
            due.is("after", x.after(state), 0);
        }
        for (int node = 0; node < 16; node++) {
            due.is("end", x.end(node, 0), 0);
        }
    }

    private void newHasAnEmptyWord() {
        due.by("a new object: an empty word");
        StackPrograms x = new StackPrograms();
        x.end(0, 1);
        due.is("lies", x.lies(0), 1);
        due.is("drop", x.drop(), 0);
        due.is("push", new StackPrograms().push(0), 1);
    }

    private void newObjectsAreApart() {
        due.by("a new object: nothing of another one");
        StackPrograms x = new StackPrograms();
        x.rule(0, 0, 0, 0, 0, 0);
        x.arc(0, 0, 8);
        x.end(0, 1);
        x.push(0);
        x.type(32, 1);
        StackPrograms y = new StackPrograms();
        due.is("rule", y.rule(0, 0, 0, 0, 0, 0), 0);
        due.is("arc", y.arc(0, 0, 8), 1);
        due.is("end", y.end(0, 1), 0);
        due.is("push", y.push(0), 1);
        due.is("type", y.type(32, 1), 1);
        due.is("the first one: rule", x.rule(0, 0, 0, 0, 0, 0), 1);
        due.is("the first one: drop", x.drop(), 1);
    }

    // ---- promise 2

    private void statesOfRules() {
        due.by("STATES are 0 .. 7 (of a rule)");
        StackPrograms x = new StackPrograms();
        x.push(0);
        for (int p = 0; p < 8; p++) {
            int q = (p + 3) % 8;
            due.is("rule", x.rule(p, 0, q, 0, 0, 0), p);
            due.is("end", x.end(q, 1), 0);
            due.is("far: the rule acts", x.far(p), 1);
            due.is("end", x.end(q, 0), 1);
        }
        for (int bad : NO_STATE) {
            due.is("rule: p " + bad, x.rule(bad, 0, 0, 0, 0, 0), BAD);
            due.is("rule: q " + bad, x.rule(0, 0, bad, 0, 0, 0), BAD);
        }
        due.is("rule: the refused had no number", x.rule(0, 0, 0, 0, 0, 0), 8);
    }

    private void signsOfRules() {
        due.by("SIGNS are 0 .. 11 (of a rule)");
        StackPrograms x = new StackPrograms();
        x.end(9, 1);
        x.arc(8, 11, 9);
        x.arc(8, 0, 9);
        for (int sign = 0; sign < 12; sign++) {
            x.arc(1, sign, 8);
            due.is("rule: g", x.rule(0, sign, 1, 2, 11 - sign, sign < 6 ? 0 : 11), sign);
            word(x, sign);
            due.is("far: before its arc", x.far(0), sign < 6 ? NONE : 1);
        }
        word(x, 0);
        due.is("far: w1 11, w2 0", x.far(0), 1);
        for (int bad : NO_SIGN) {
            due.is("rule: g " + bad, x.rule(0, bad, 0, 0, 0, 0), BAD);
            due.is("rule: w1 of 1 " + bad, x.rule(0, 0, 0, 1, bad, 0), BAD);
            due.is("rule: w1 of 2 " + bad, x.rule(0, 0, 0, 2, bad, 0), BAD);
            due.is("rule: w2 of 2 " + bad, x.rule(0, 0, 0, 2, 0, bad), BAD);
        }
        due.is("rule: the refused had no number", x.rule(0, 0, 0, 0, 0, 0), 12);
    }

    private void howManySignsOfRules() {
        due.by("A RULE with n (0 .. 2) signs");
        StackPrograms x = new StackPrograms();
        for (int n = 0; n <= 2; n++) {
            due.is("rule: n " + n, x.rule(0, 0, 0, n, 0, 0), n);
        }
        for (int bad : new int[] {Integer.MIN_VALUE, -2, -1, 3, 4, 256, Integer.MAX_VALUE}) {
            due.is("rule: n " + bad, x.rule(0, 0, 0, bad, 0, 0), BAD);
        }
        due.is("clear", x.clear(), 3);
    }

    private void signsBeyondDoNotMatter() {
        due.by("those beyond n do not matter");
        for (int any : ANY) {
            StackPrograms x = new StackPrograms();
            due.is("rule: of 0 signs", x.rule(0, 0, 1, 0, any, any), 0);
            due.is("rule: of 1 sign", x.rule(2, 0, 1, 1, 5, any), 1);
            x.push(0);
            x.end(1, 1);
            due.is("far: no sign is there", x.far(0), 1);
            due.is("far: a sign is there", x.far(2), NONE);
            x.end(1, 0);
            x.arc(1, 5, 8);
            x.end(8, 1);
            due.is("far: no sign is there", x.far(0), NONE);
            due.is("far: one sign is there", x.far(2), 1);
            x.clear();
            x.rule(0, 0, 1, 0, any, any);
            x.rule(2, 0, 1, 1, 5, any);
            x.arc(0, 0, 8);
            x.arc(2, 0, 8);
            x.end(8, 1);
            word(x);
            due.is("after: no sign", x.after(1), 1);
            word(x, 5);
            due.is("after: one sign", x.after(1), 1);
            word(x, 0);
            due.is("after: no other sign", x.after(1), 0);
        }
    }

    private void signsComeInPlace() {
        due.by("g gone and the rule's signs in its place, the first of them on top");
        StackPrograms x = new StackPrograms();
        x.rule(0, 0, 1, 2, 3, 4);
        x.arc(0, 0, 8);
        x.end(8, 1);
        word(x, 4, 3);
        due.is("after: the first on top", x.after(1), 1);
        word(x, 3, 4);
        due.is("after: the second on top", x.after(1), 0);
        word(x, 0, 4, 3);
        due.is("after: g is gone", x.after(1), 0);
        x.arc(1, 3, 9);
        x.arc(9, 4, 10);
        x.end(10, 1);
        x.end(8, 0);
        word(x, 0);
        due.is("far: the first on top", x.far(0), 1);
        due.is("far: in another state", x.far(1), NONE);
    }

    /** Rules that lead nowhere: no word here has the sign 11 on top. */
    private static void idleRules(StackPrograms x, int times) {
        for (int i = 0; i < times; i++) {
            x.rule(7, 11, 7, 2, 11, 11);
        }
    }

    private void fortyEightRules() {
        due.by("RULES 0 .. 47, as they come; FULL: there are 48");
        StackPrograms x = new StackPrograms();
        x.end(1, 1);
        x.push(0);
        for (int i = 0; i < 47; i++) {
            due.is("rule", x.rule(7, 11, 7, 2, 11, 11), i);
        }
        due.is("far: without the last", x.far(0), NONE);
        due.is("rule: the last", x.rule(0, 0, 1, 0, 0, 0), 47);
        due.is("far: by the last", x.far(0), 1);
        due.is("way: by the last", x.way(0, 0), 47);
        due.is("rule: one more", x.rule(2, 0, 1, 0, 0, 0), FULL);
        due.is("rule: one that is there already", x.rule(0, 0, 1, 0, 0, 0), FULL);
        due.is("rule: bad", x.rule(2, 0, 1, 3, 0, 0), BAD);
        due.is("far: the refused does nothing", x.far(2), NONE);
        due.is("far: as before", x.far(0), 1);
        due.is("way: as before", x.way(0, 0), 47);
        due.is("clear", x.clear(), 48);
        due.is("rule: room again", x.rule(2, 0, 1, 0, 0, 0), 0);
        due.is("end: no end", x.end(1, 1), 0);
        due.is("far: it acts", x.far(2), 1);
        due.is("far: the old ones are gone", x.far(0), NONE);
    }

    private void rulesAlike() {
        due.by("RULES .. as they come: one that is there already is one more");
        StackPrograms x = new StackPrograms();
        x.end(1, 1);
        x.push(0);
        due.is("rule", x.rule(0, 0, 1, 0, 0, 0), 0);
        due.is("rule", x.rule(0, 0, 1, 0, 0, 0), 1);
        due.is("way: the lesser of them", x.way(0, 0), 0);
        due.is("clear", x.clear(), 2);
    }

    private void refusedRulesDoNothing() {
        due.by("rule: BAD");
        StackPrograms x = new StackPrograms();
        x.end(0, 1);
        x.push(0);
        due.is("rule", x.rule(0, 0, 0, 0, 0, 12), 0);
        due.is("way", x.way(0, 0), 0);
        due.is("rule: q", x.rule(1, 0, 8, 0, 0, 0), BAD);
        due.is("rule: n", x.rule(1, 0, 0, -1, 0, 0), BAD);
        due.is("rule: w1", x.rule(1, 0, 0, 1, -1, 0), BAD);
        due.is("far", x.far(1), NONE);
        due.is("after", x.after(1), 0);
        due.is("way", x.way(0, 0), 0);
        due.is("rule: the next", x.rule(1, 0, 0, 0, 0, 0), 1);
        due.is("way: the next", x.way(1, 0), 1);
    }

    // ---- promises 3 to 5

    private void nodesOfArcs() {
        due.by("NODES 0 .. 15 (of an arc)");
        StackPrograms x = new StackPrograms();
        int count = 0;
        for (int from = 0; from < 16; from++) {
            count++;
            due.is("arc: from " + from, x.arc(from, 0, 15), count);
        }
        for (int to = 8; to < 15; to++) {
            count++;
            due.is("arc: to " + to, x.arc(0, 0, to), count);
        }
        for (int bad : NO_NODE) {
            due.is("arc: from " + bad, x.arc(bad, 1, 8), BAD);
            due.is("arc: to " + bad, x.arc(1, 1, bad), BAD);
        }
        due.is("arc: the refused do not count", x.arc(0, 1, 8), count + 1);
        x.end(15, 1);
        x.push(0);
        for (int state = 0; state < 8; state++) {
            due.is("lies: from " + state, x.lies(state), 1);
        }
        x.push(0);
        due.is("lies: from 15 to 15", x.lies(7), 1);
    }

    private void signsOfArcs() {
        due.by("SIGNS are 0 .. 11 (of an arc)");
        StackPrograms x = new StackPrograms();
        x.end(8, 1);
        for (int sign = 0; sign < 12; sign++) {
            word(x, sign);
            due.is("lies: before", x.lies(0), 0);
            due.is("arc", x.arc(0, sign, 8), sign + 1);
            due.is("lies: then", x.lies(0), 1);
        }
        for (int bad : NO_SIGN) {
            due.is("arc: sign " + bad, x.arc(1, bad, 8), BAD);
        }
        for (int sign = 0; sign < 12; sign++) {
            word(x, sign);
            due.is("lies: nothing came of them", x.lies(1), 0);
        }
        due.is("arc: the refused do not count", x.arc(0, 0, 9), 13);
    }

    private void arcsToStates() {
        due.by("BAD: also to a node below 8");
        StackPrograms x = new StackPrograms();
        for (int to = 0; to < 8; to++) {
            x.end(to, 1);
            due.is("arc: from 0", x.arc(0, 0, to), BAD);
            due.is("arc: from 8", x.arc(8, 0, to), BAD);
        }
        x.push(0);
        due.is("lies", x.lies(0), 0);
        due.is("arc: to 8", x.arc(0, 0, 8), 1);
        due.is("lies", x.lies(0), 0);
    }

    private void noTwoArcsAlike() {
        due.by("no two alike: one that is there already is no more");
        StackPrograms x = new StackPrograms();
        due.is("arc", x.arc(0, 0, 8), 1);
        due.is("arc: again", x.arc(0, 0, 8), 1);
        due.is("arc: from another", x.arc(1, 0, 8), 2);
        due.is("arc: by another", x.arc(0, 1, 8), 3);
        due.is("arc: to another", x.arc(0, 0, 9), 4);
        due.is("arc: again", x.arc(0, 0, 8), 4);
        x.end(9, 1);
        x.push(0);
        due.is("lies: each of them leads on", x.lies(0), 1);
    }

    /** Arcs 1 to 64, all from nodes above 7 but the last; the answer to the last. */
    private static int fillArcs(StackPrograms x, int most) {
        int answer = 0;
        for (int i = 0; i < most; i++) {
            answer = x.arc(8 + i / 8, 11, 8 + i % 8);
        }
        return answer;
    }

    private void sixtyFourArcs() {
        due.by("ARCS .. 64 at most; FULL: there are 64 (one that is there already is no more, and not refused)");
        StackPrograms x = new StackPrograms();
        x.end(15, 1);
        x.push(0);
        due.is("arc: 63", fillArcs(x, 63), 63);
        due.is("arc: 64", x.arc(0, 0, 15), 64);
        due.is("lies: by the last", x.lies(0), 1);
        due.is("arc: one more", x.arc(1, 0, 15), FULL);
        due.is("arc: one more", x.arc(15, 11, 15), FULL);
        due.is("arc: the last again", x.arc(0, 0, 15), 64);
        due.is("arc: the others again", fillArcs(x, 63), 64);
        due.is("arc: bad", x.arc(1, 0, 7), BAD);
        due.is("lies: the refused does not lead on", x.lies(1), 0);
        due.is("far: the refused does not lead on", x.far(1), NONE);
        due.is("after: the refused does not lead on", x.after(1), 0);
        due.is("lies: by the last still", x.lies(0), 1);
        due.is("clear: no rules", x.clear(), 0);
        due.is("arc: room again", x.arc(1, 0, 15), 1);
        due.is("arc: the old ones are gone", x.arc(0, 0, 15), 2);
    }

    private void refusedArcsDoNothing() {
        due.by("arc: BAD");
        StackPrograms x = new StackPrograms();
        x.end(8, 1);
        x.end(15, 1);
        x.push(0);
        due.is("far", x.far(0), NONE);
        due.is("arc: from", x.arc(-1, 0, 8), BAD);
        due.is("arc: sign", x.arc(0, -1, 8), BAD);
        due.is("arc: to", x.arc(0, 0, 16), BAD);
        due.is("lies", x.lies(0), 0);
        due.is("far", x.far(0), NONE);
        due.is("after", x.after(0), 0);
        due.is("arc: the next", x.arc(0, 0, 8), 1);
        due.is("far: the next", x.far(0), 0);
    }

    private void nodesOfEnds() {
        due.by("NODES 0 .. 15 (of an end)");
        StackPrograms x = new StackPrograms();
        for (int node = 0; node < 16; node++) {
            due.is("end: " + node, x.end(node, 1), 0);
        }
        for (int bad : NO_NODE) {
            due.is("end: " + bad, x.end(bad, 0), BAD);
            due.is("end: " + bad, x.end(bad, 1), BAD);
        }
        for (int node = 0; node < 16; node++) {
            due.is("end: as it was", x.end(node, 0), 1);
            due.is("end: no more", x.end(node, 0), 0);
        }
    }

    private void endsAreOrNot() {
        due.by("A node is an END (1) or not (0): what it was. BAD");
        StackPrograms x = new StackPrograms();
        for (int bad : new int[] {Integer.MIN_VALUE, -1, 2, 3, 256, Integer.MAX_VALUE}) {
            due.is("end: is " + bad, x.end(3, bad), BAD);
            due.is("lies", x.lies(3), 0);
        }
        due.is("end: was none", x.end(3, 1), 0);
        for (int bad : new int[] {Integer.MIN_VALUE, -1, 2, 3, 256, Integer.MAX_VALUE}) {
            due.is("end: is " + bad, x.end(3, bad), BAD);
            due.is("lies", x.lies(3), 1);
        }
        due.is("end: was one", x.end(3, 1), 1);
        due.is("end: was one", x.end(3, 0), 1);
        due.is("end: was none", x.end(3, 0), 0);
        due.is("lies", x.lies(3), 0);
    }

    private void statesAsEnds() {
        due.by("some nodes are ENDS (also some of 0 .. 7)");
        StackPrograms x = new StackPrograms();
        for (int state = 0; state < 8; state++) {
            due.is("lies: before", x.lies(state), 0);
            x.end(state, 1);
            due.is("lies: then", x.lies(state), 1);
            due.is("far: then", x.far(state), 0);
            due.is("after: then", x.after(state), 1);
        }
        x.push(0);
        due.is("lies: with a sign", x.lies(0), 0);
    }

    private void clearAnswers() {
        due.by("clear: how many rules there were");
        StackPrograms x = new StackPrograms();
        due.is("clear: none", x.clear(), 0);
        idleRules(x, 1);
        due.is("clear: one", x.clear(), 1);
        due.is("clear: none any more", x.clear(), 0);
        idleRules(x, 48);
        idleRules(x, 1);
        due.is("clear: all", x.clear(), 48);
        due.is("clear: none any more", x.clear(), 0);
        x.arc(0, 0, 8);
        x.end(0, 1);
        due.is("clear: arcs and ends are no rules", x.clear(), 0);
    }

    private void clearLeavesNothing() {
        due.by("No rules, arcs, ends are there any more");
        StackPrograms x = new StackPrograms();
        x.rule(1, 0, 0, 1, 0, 0);
        x.arc(0, 0, 8);
        x.end(8, 1);
        x.push(0);
        due.is("far: before", x.far(1), 1);
        due.is("way: before", x.way(1, 0), 0);
        due.is("after: before", x.after(0), 1);
        x.clear();
        due.is("way", x.way(1, 0), NONE);
        due.is("far", x.far(0), NONE);
        due.is("after", x.after(0), 0);
        due.is("end: no end", x.end(8, 1), 0);
        due.is("lies: no arc", x.lies(0), 0);
        due.is("arc: the first", x.arc(0, 0, 8), 1);
        due.is("lies", x.lies(0), 1);
        due.is("far: no rule", x.far(1), NONE);
        due.is("way: no rule", x.way(1, 0), NONE);
        due.is("rule: the first", x.rule(2, 0, 0, 1, 0, 0), 0);
    }

    private void clearLeavesNoEnd() {
        due.by("No .. ends are there any more: none of all");
        StackPrograms x = new StackPrograms();
        for (int node = 0; node < 16; node++) {
            x.end(node, 1);
        }
        x.clear();
        for (int node = 0; node < 16; node++) {
            due.is("end: " + node, x.end(node, 0), 0);
        }
    }

    private void clearThenAnEndAlone() {
        due.by("No rules .. are there any more: an end alone brings none back");
        StackPrograms x = new StackPrograms();
        x.rule(0, 0, 1, 0, 0, 0);
        x.end(1, 1);
        x.push(0);
        due.is("far: before", x.far(0), 1);
        due.is("way: before", x.way(0, 0), 0);
        x.clear();
        x.end(1, 1);
        due.is("far", x.far(0), NONE);
        due.is("way", x.way(0, 0), NONE);
        x.clear();
        x.rule(0, 0, 1, 0, 0, 0);
        x.arc(0, 0, 8);
        x.end(8, 1);
        x.drop();
        due.is("after: before", x.after(1), 1);
        x.clear();
        x.end(8, 1);
        due.is("after", x.after(1), 0);
    }

    private void clearLeavesNothingBehind() {
        due.by("No rules .. are there any more: nor what came of them");
        StackPrograms x = new StackPrograms();
        x.rule(0, 1, 1, 2, 2, 3);
        x.rule(0, 0, 1, 0, 0, 0);
        x.arc(0, 0, 8);
        x.arc(0, 1, 8);
        x.end(8, 1);
        due.is("after: nothing is left", x.after(1), 1);
        word(x, 3, 2);
        due.is("after: two signs", x.after(1), 1);
        x.clear();
        x.arc(0, 1, 8);
        x.end(8, 1);
        due.is("after: no rule", x.after(1), 0);
        x.rule(0, 1, 2, 2, 2, 4);
        due.is("after: another rule", x.after(2), 0);
        due.is("after: another rule", x.after(1), 0);
        word(x, 4, 2);
        due.is("after: another rule", x.after(2), 1);
        x.drop();
        due.is("after: no rule that leaves nothing", x.after(1), 0);
    }

    private void clearLeavesTheRest() {
        due.by("clear: rules, arcs, ends, and nothing else");
        StackPrograms x = new StackPrograms();
        x.push(3);
        Due.read(x, "var g; proc m { assert g; }");
        x.check();
        x.type(32, 1);
        x.clear();
        due.is("told", x.told(2, 0), 1);
        due.is("check", x.check(), 1);
        due.is("trace", x.trace(0, 4), 0);
        due.is("type", x.type(32, 1), 2);
        due.is("push", x.push(4), 2);
        x.arc(0, 4, 8);
        x.arc(8, 3, 9);
        x.end(9, 1);
        due.is("lies: the word stays", x.lies(0), 1);
    }

    // ---- promises 6 to 8

    private void signsOfWords() {
        due.by("SIGNS are 0 .. 11 (of the word)");
        StackPrograms x = new StackPrograms();
        for (int sign = 0; sign < 12; sign++) {
            due.is("push: " + sign, x.push(sign), sign + 1);
        }
        for (int bad : NO_SIGN) {
            due.is("push: " + bad, x.push(bad), BAD);
        }
        due.is("drop: the refused did not come", x.drop(), 12);
    }

    /** The set: in state 0 a word with 2 on top, 1 at the bottom, and nothing but 0 between them. */
    private static void netOfTwoToOne(StackPrograms x) {
        x.arc(0, 2, 8);
        x.arc(8, 0, 8);
        x.arc(8, 1, 9);
        x.end(9, 1);
    }

    private void thirtySigns() {
        due.by("THE WORD is .. at most 30 signs; FULL: it has 30");
        StackPrograms x = new StackPrograms();
        netOfTwoToOne(x);
        due.is("push: 1", x.push(1), 1);
        for (int i = 2; i < 30; i++) {
            due.is("push", x.push(0), i);
        }
        due.is("push: 30", x.push(2), 30);
        due.is("lies", x.lies(0), 1);
        due.is("push: one more", x.push(0), FULL);
        due.is("push: one more", x.push(2), FULL);
        due.is("push: bad", x.push(12), BAD);
        due.is("push: bad", x.push(-1), BAD);
        due.is("lies: the word is as it was", x.lies(0), 1);
        due.is("far: the word is as it was", x.far(0), 0);
        due.is("after: the word is as it was", x.after(0), 1);
        due.is("drop", x.drop(), 30);
        due.is("push: room again", x.push(0), 1);
    }

    private void refusedSignsDoNothing() {
        due.by("push: BAD");
        StackPrograms x = new StackPrograms();
        netOfTwoToOne(x);
        x.push(1);
        due.is("push", x.push(12), BAD);
        x.push(0);
        due.is("push", x.push(-1), BAD);
        due.is("push: the third", x.push(2), 3);
        due.is("push", x.push(Integer.MIN_VALUE), BAD);
        due.is("lies", x.lies(0), 1);
        due.is("drop", x.drop(), 3);
    }

    private void dropAnswers() {
        due.by("THE WORD is empty: how many it had");
        StackPrograms x = new StackPrograms();
        x.end(0, 1);
        for (int had : new int[] {0, 1, 2, 29, 30}) {
            pushAgain(x, 5, had);
            due.is("lies: before", x.lies(0), had == 0 ? 1 : 0);
            due.is("drop: " + had, x.drop(), had);
            due.is("lies: empty", x.lies(0), 1);
            due.is("drop: once more", x.drop(), 0);
        }
    }

    private void dropLeavesTheRest() {
        due.by("drop: THE WORD, and nothing else");
        StackPrograms x = new StackPrograms();
        x.rule(1, 0, 0, 1, 0, 0);
        x.arc(0, 0, 8);
        x.end(8, 1);
        x.type(32, 1);
        x.push(0);
        x.drop();
        due.is("rule", x.rule(2, 0, 0, 1, 0, 0), 1);
        due.is("arc", x.arc(0, 0, 8), 1);
        due.is("end", x.end(8, 1), 1);
        due.is("type", x.type(32, 1), 2);
        x.push(0);
        due.is("far", x.far(1), 1);
    }

    private void statesOfLies() {
        due.by("lies: 1 or 0. BAD");
        StackPrograms x = new StackPrograms();
        for (int node = 0; node < 16; node += 7) {
            x.end(node, 1);
        }
        due.is("lies: 0", x.lies(0), 1);
        due.is("lies: 6", x.lies(6), 0);
        due.is("lies: 7", x.lies(7), 1);
        for (int bad : NO_STATE) {
            due.is("lies: " + bad, x.lies(bad), BAD);
        }
    }

    private void wordWithoutSigns() {
        due.by("a WORD of signs (perhaps none)");
        StackPrograms x = new StackPrograms();
        x.rule(0, 0, 1, 0, 0, 0);
        x.arc(0, 0, 8);
        x.end(8, 1);
        x.end(1, 1);
        due.is("lies: no end", x.lies(0), 0);
        due.is("far: no rule without a sign", x.far(0), NONE);
        due.is("way: no rule without a sign", x.way(0, 0), NONE);
        due.is("lies: an end", x.lies(1), 1);
        due.is("far: an end", x.far(1), 0);
        due.is("way: an end", x.way(1, 0), NONE);
        due.is("after: an end", x.after(1), 1);
    }

    private void wordOfThirtySigns() {
        due.by("arcs by its word's signs, the top first, lead to an end (30 signs)");
        StackPrograms x = new StackPrograms();
        netOfTwoToOne(x);
        x.push(1);
        pushAgain(x, 0, 28);
        x.push(2);
        due.is("lies", x.lies(0), 1);
        word(x, 0);
        pushAgain(x, 0, 28);
        x.push(2);
        due.is("lies: another bottom", x.lies(0), 0);
        word(x, 1);
        pushAgain(x, 0, 29);
        due.is("lies: another top", x.lies(0), 0);
        word(x, 2);
        pushAgain(x, 0, 28);
        x.push(1);
        due.is("lies: upside down", x.lies(0), 0);
    }

    // ---- promises 9 and 10

    private void statesOfFar() {
        due.by("far: BAD");
        StackPrograms x = new StackPrograms();
        x.end(0, 1);
        x.end(7, 1);
        due.is("far: 0", x.far(0), 0);
        due.is("far: 7", x.far(7), 0);
        for (int bad : NO_STATE) {
            due.is("far: " + bad, x.far(bad), BAD);
        }
    }

    private void farByNoSteps() {
        due.by("by steps (perhaps none), can come to one that lies in the set");
        StackPrograms x = new StackPrograms();
        x.rule(0, 0, 0, 1, 0, 0);
        x.arc(0, 0, 8);
        x.end(8, 1);
        x.push(0);
        due.is("far", x.far(0), 0);
        x.push(0);
        due.is("far: not that one", x.far(0), NONE);
    }

    private void farWithoutAWay() {
        due.by("far: NONE: it is not BEFORE it");
        StackPrograms x = new StackPrograms();
        // It goes on without end, and grows, but never comes to an empty stack.
        x.rule(0, 0, 1, 1, 0, 0);
        x.rule(1, 0, 0, 2, 0, 0);
        x.end(0, 1);
        x.push(0);
        due.is("far", x.far(0), NONE);
        due.is("far", x.far(1), NONE);
        x.rule(1, 0, 0, 0, 0, 0);
        due.is("far: now it comes", x.far(0), 2);
    }

    /**
     * In state 0 the sign i of 0 .. 8 is gone in 2^(i + 1) - 1 steps, in state 1 in 514 * 2^i - 1; in state 1 the sign 9
     * is gone in one step, 10 in three, 11 in 257.
     */
    private static void longWays(StackPrograms x) {
        x.rule(0, 0, 0, 0, 0, 0);
        x.rule(1, 0, 0, 2, 8, 9);
        for (int i = 1; i <= 8; i++) {
            x.rule(0, i, 0, 2, i - 1, i - 1);
            x.rule(1, i, 1, 2, i - 1, i - 1);
        }
        x.rule(0, 9, 1, 0, 0, 0);
        x.rule(1, 9, 1, 0, 0, 0);
        x.rule(1, 10, 1, 2, 9, 9);
        x.rule(1, 11, 0, 2, 7, 9);
        x.end(1, 1);
    }

    private void farInAMillionSteps() {
        due.by("HOW FAR is the least number of steps (1,000,000 for more)");
        StackPrograms x = new StackPrograms();
        longWays(x);
        word(x, 0);
        due.is("far: sign 0", x.far(1), 513);
        word(x, 11);
        due.is("far: sign 11", x.far(1), 257);
        // 514 * (7 * 256 + 128 + 16 + 8 + 1) - 11 + 257 + 7 * 3 = 999,997
        word(x, 8, 8, 8, 8, 8, 8, 8, 7, 4, 3, 0, 11, 10, 10, 10, 10, 10, 10, 10);
        due.is("far: 999,997", x.far(1), 999997);
        int[] told = {999998, 999999, 1000000, 1000000, 1000000};
        for (int steps : told) {
            x.push(9);
            due.is("far", x.far(1), steps);
            due.is("way: too many", x.way(1, 0), NONE);
        }
        pushAgain(x, 8, 6);
        due.is("far: 30 signs", x.far(1), 1000000);
        x.drop();
        due.is("far: as if nothing had been", x.far(1), 0);
    }

    private void farInMoreThanAnIntCounts() {
        due.by("HOW FAR .. (1,000,000 for more): also beyond what an int can count");
        StackPrograms x = new StackPrograms();
        // In state s the sign 0 takes two steps more than the sign 7 of state s - 1, and the sign 7 some 128 times as many.
        for (int s = 0; s < 5; s++) {
            for (int i = 1; i <= 7; i++) {
                x.rule(s, i, s, 2, i - 1, i - 1);
            }
            if (s > 0) {
                x.rule(s, 0, s - 1, 2, 7, 7 + s);
                x.rule(s - 1, 7 + s, s, 0, 0, 0);
            }
            x.end(s, 1);
        }
        x.rule(0, 0, 0, 0, 0, 0);
        pushAgain(x, 7, 30);
        due.is("far: in state 0", x.far(0), 30 * 255);
        for (int s = 1; s < 5; s++) {
            due.is("far: in state " + s, x.far(s), s == 1 ? 30 * (257 * 128 + 127) : 1000000);
        }
        due.is("far: none is not many", x.far(5), NONE);
        due.is("way: none", x.way(4, 0), NONE);
    }

    private void statesOfWay() {
        due.by("way: BAD: state");
        StackPrograms x = new StackPrograms();
        x.rule(0, 0, 0, 0, 0, 0);
        x.rule(7, 0, 7, 0, 0, 0);
        x.end(0, 1);
        x.end(7, 1);
        x.push(0);
        due.is("way: 0", x.way(0, 0), 0);
        due.is("way: 7", x.way(7, 0), 1);
        for (int bad : NO_STATE) {
            due.is("way: " + bad, x.way(bad, 0), BAD);
            due.is("way: with no such k either", x.way(bad, -1), BAD);
            due.is("way: with no such k either", x.way(bad, 5000), BAD);
        }
        due.is("way: 7 still", x.way(7, 0), 1);
    }

    private void numbersOfWay() {
        due.by("The k-th rule, from 0 .. NONE: it has not so many, or there is none");
        StackPrograms x = new StackPrograms();
        x.rule(0, 0, 0, 1, 1, 0);
        x.rule(0, 1, 0, 0, 0, 0);
        x.end(0, 1);
        x.push(0);
        due.is("way: the first", x.way(0, 0), 0);
        due.is("way: the last", x.way(0, 1), 1);
        for (int k : new int[] {Integer.MIN_VALUE, -2, -1, 2, 3, 1999, 2000, 2001, Integer.MAX_VALUE}) {
            due.is("way: it has not so many " + k, x.way(0, k), NONE);
            due.is("way: there is none " + k, x.way(1, k), NONE);
        }
        due.is("way: the last still", x.way(0, 1), 1);
    }

    private void wayOfNoSteps() {
        due.by("NONE: it has not so many (of no steps)");
        StackPrograms x = new StackPrograms();
        x.rule(0, 0, 0, 0, 0, 0);
        x.end(0, 1);
        x.push(0);
        due.is("way: of one step", x.way(0, 0), 0);
        due.is("way: of one step", x.way(0, 1), NONE);
        x.drop();
        due.is("far: lies in the set", x.far(0), 0);
        for (int k = -1; k <= 1; k++) {
            due.is("way: lies in the set", x.way(0, k), NONE);
        }
    }

    /** In state 0 the sign i of 0 .. 10 is gone in 2^(i + 1) - 1 steps, by rule 0 for the sign 0, by rule i for i. */
    private static void doubling(StackPrograms x) {
        x.rule(0, 0, 0, 0, 0, 0);
        for (int i = 1; i <= 10; i++) {
            x.rule(0, i, 0, 2, i - 1, i - 1);
        }
        x.end(0, 1);
    }

    private void wayOfTwoThousandSteps() {
        due.by("THE WAY is the row of rules of so many steps (none, if they are more than 2000): 2000");
        StackPrograms x = new StackPrograms();
        doubling(x);
        // 1023 + 511 + 255 + 127 + 63 + 15 + 3 + 3 = 2000
        word(x, 1, 9, 8, 7, 6, 5, 3, 1);
        due.is("far", x.far(0), 2000);
        int[] first = {1, 0, 0, 3, 2, 1, 0, 0, 1, 0, 0, 2};
        for (int k = 0; k < first.length; k++) {
            due.is("way: " + k, x.way(0, k), first[k]);
        }
        due.is("way: 1997", x.way(0, 1997), 1);
        due.is("way: 1998", x.way(0, 1998), 0);
        due.is("way: 1999", x.way(0, 1999), 0);
        due.is("way: 2000", x.way(0, 2000), NONE);
    }

    private void wayOfOneMoreStep() {
        due.by("THE WAY .. (none, if they are more than 2000): 2001");
        StackPrograms x = new StackPrograms();
        doubling(x);
        word(x, 1, 9, 8, 7, 6, 5, 3, 1, 0);
        due.is("far", x.far(0), 2001);
        for (int k : new int[] {0, 1, 1999, 2000, 2001}) {
            due.is("way: " + k, x.way(0, k), NONE);
        }
        word(x, 1, 9, 8, 7, 6, 5, 3, 1);
        due.is("way: of 2000", x.way(0, 1999), 0);
        x.push(0);
        due.is("way: of 2001 again", x.way(0, 0), NONE);
        due.is("way: of 2001 again", x.way(0, 1999), NONE);
    }

    private void wayFromThirtySigns() {
        due.by("THE WAY from the configuration (30 signs)");
        StackPrograms x = new StackPrograms();
        doubling(x);
        pushAgain(x, 5, 30);
        due.is("far", x.far(0), 30 * 63);
        int[] part = {5, 4, 3, 2, 1, 0, 0, 1, 0, 0};
        for (int k = 0; k < part.length; k++) {
            due.is("way: the top", x.way(0, k), part[k]);
            due.is("way: the bottom", x.way(0, 29 * 63 + k), part[k]);
        }
        due.is("way: the last", x.way(0, 30 * 63 - 1), 0);
        due.is("way: no more", x.way(0, 30 * 63), NONE);
    }

    private void stacksGrowAsHighAsNeeded() {
        due.by("though the stacks are without end");
        StackPrograms x = new StackPrograms();
        // In states 0 .. 2 signs come, three at a time before one turns; in 3 .. 7 they go, one a step.
        for (int s = 0; s < 3; s++) {
            x.rule(s, 0, (s + 1) % 3, 2, 0, 0);
        }
        x.rule(0, 0, 3, 1, 1, 0);
        x.rule(3, 1, 3, 0, 0, 0);
        for (int s = 3; s < 8; s++) {
            x.rule(s, 0, s == 7 ? 3 : s + 1, 0, 0, 0);
        }
        x.end(7, 1);
        pushAgain(x, 0, 30);
        // From 30 + 3 n signs one turns to 1 and goes. 29 + 3 n more go: for state 7 that is 4 beyond a multiple of 5 ..
        due.is("far: it need not grow", x.far(0), 1 + 1 + 29);
        x.end(7, 0);
        x.end(6, 1);
        // .. and for state 6 it is 3 beyond one, so n is 3.
        due.is("far: it must grow", x.far(0), 9 + 1 + 1 + 38);
        for (int k = 0; k < 9; k++) {
            due.is("way: it grows", x.way(0, k), k % 3);
        }
        due.is("way: it turns", x.way(0, 9), 3);
        due.is("way: it shrinks", x.way(0, 10), 4);
        due.is("way: the last", x.way(0, 48), 7);
        due.is("way: no more", x.way(0, 49), NONE);
    }

    private void eachChangeCounts() {
        due.by("THE WAY from the configuration (as it is now)");
        StackPrograms x = new StackPrograms();
        x.rule(0, 0, 0, 1, 1, 0);
        x.rule(0, 1, 1, 0, 0, 0);
        x.push(0);
        due.is("way: no end", x.way(0, 0), NONE);
        x.end(1, 1);
        due.is("way: an end", x.way(0, 1), 1);
        due.is("way: of another state", x.way(1, 1), NONE);
        x.rule(0, 0, 1, 0, 0, 0);
        due.is("way: one more rule", x.way(0, 0), 2);
        x.end(1, 0);
        due.is("way: no end", x.way(0, 0), NONE);
        x.end(8, 1);
        x.arc(0, 1, 8);
        due.is("way: an arc", x.way(0, 0), 0);
        due.is("way: an arc", x.way(0, 1), NONE);
        x.push(0);
        due.is("way: one more sign", x.way(0, 0), NONE);
        x.drop();
        x.push(0);
        due.is("way: one sign again", x.way(0, 0), 0);
        x.clear();
        due.is("way: nothing any more", x.way(0, 0), NONE);
    }

    // ---- promise 11

    private void statesOfAfter() {
        due.by("after: 1 or 0. BAD");
        StackPrograms x = new StackPrograms();
        x.end(0, 1);
        x.end(7, 1);
        due.is("after: 0", x.after(0), 1);
        due.is("after: 6", x.after(6), 0);
        due.is("after: 7", x.after(7), 1);
        for (int bad : NO_STATE) {
            due.is("after: " + bad, x.after(bad), BAD);
        }
    }

    private void afterNoSteps() {
        due.by("AFTER: by steps (perhaps none) one that lies in the set can come to the configuration");
        StackPrograms x = new StackPrograms();
        x.arc(0, 0, 8);
        x.end(8, 1);
        x.push(0);
        due.is("after: none", x.after(0), 1);
        due.is("after: no rule", x.after(1), 0);
        x.rule(0, 0, 1, 1, 0, 0);
        x.rule(1, 0, 2, 1, 0, 0);
        due.is("after: none", x.after(0), 1);
        due.is("after: one", x.after(1), 1);
        due.is("after: two", x.after(2), 1);
        due.is("after: not from it", x.after(3), 0);
        due.is("far: the other way round", x.far(2), NONE);
    }

    private void afterManySteps() {
        due.by("AFTER: by steps (in whatever order their rules came)");
        StackPrograms x = new StackPrograms();
        x.rule(4, 4, 5, 1, 5, 0);
        x.rule(3, 3, 4, 2, 4, 6);
        x.rule(2, 2, 3, 1, 3, 0);
        x.rule(1, 1, 2, 1, 2, 0);
        x.rule(0, 0, 1, 0, 0, 0);
        x.arc(0, 0, 8);
        x.arc(8, 1, 9);
        x.end(9, 1);
        word(x, 6, 5);
        due.is("after", x.after(5), 1);
        due.is("after: in another state", x.after(4), 0);
        x.rule(7, 7, 3, 1, 3, 0);
        x.rule(5, 5, 6, 0, 0, 0);
        x.rule(6, 6, 7, 1, 7, 0);
        word(x, 3);
        due.is("after: once more around", x.after(3), 1);
        word(x, 6, 6, 4);
        due.is("after: it never grows by more", x.after(4), 0);
        word(x, 6, 4);
        due.is("after: it grows by one", x.after(4), 1);
    }

    private void afterABranchThatJoinsLate() {
        due.by("AFTER: by steps (as many as it takes)");
        StackPrograms x = new StackPrograms();
        x.rule(2, 6, 3, 0, 0, 0);
        x.rule(0, 0, 1, 2, 5, 6);
        x.rule(1, 5, 2, 0, 0, 0);
        x.rule(4, 4, 0, 1, 0, 0);
        x.rule(5, 5, 4, 1, 4, 0);
        x.rule(6, 6, 5, 1, 5, 0);
        // The set: state 0 with 0 and 7 below, state 6 with 6 and 8 below.
        x.arc(0, 0, 8);
        x.arc(8, 7, 10);
        x.arc(6, 6, 9);
        x.arc(9, 8, 10);
        x.end(10, 1);
        word(x, 7);
        due.is("after: the one", x.after(3), 1);
        word(x, 8);
        due.is("after: the other", x.after(3), 1);
        word(x, 9);
        due.is("after: neither", x.after(3), 0);
    }

    private void afterAnEmptyStack() {
        due.by("AFTER: an empty stack has no step");
        StackPrograms x = new StackPrograms();
        x.end(0, 1);
        x.rule(0, 0, 1, 0, 0, 0);
        due.is("after", x.after(0), 1);
        due.is("after", x.after(1), 0);
        x.arc(0, 0, 8);
        x.end(8, 1);
        due.is("after: with a sign it has", x.after(1), 1);
    }

    private void afterThirtySigns() {
        due.by("AFTER: the configuration asked for is a state and the word (30 signs)");
        StackPrograms x = new StackPrograms();
        x.arc(0, 0, 8);
        x.end(8, 1);
        x.rule(0, 0, 1, 2, 0, 1);
        x.rule(1, 0, 0, 2, 0, 2);
        // From the sign 0 the stack grows by 1 and 2 in turn; the bottom is the first 1.
        for (int i = 0; i < 29; i++) {
            x.push(1 + i % 2);
        }
        due.is("push: 30", x.push(0), 30);
        due.is("after: odd", x.after(1), 1);
        due.is("after: even", x.after(0), 0);
        x.drop();
        for (int i = 0; i < 29; i++) {
            x.push(2 - i % 2);
        }
        x.push(0);
        due.is("after: the other in turn", x.after(1), 0);
    }

    private void afterByTheLastRule() {
        due.by("AFTER, by any of 48 rules");
        StackPrograms x = new StackPrograms();
        x.arc(0, 0, 8);
        x.end(8, 1);
        idleRules(x, 47);
        word(x, 6, 5);
        due.is("after: without the last", x.after(1), 0);
        due.is("rule", x.rule(0, 0, 1, 2, 5, 6), 47);
        due.is("after: by the last", x.after(1), 1);
        due.is("rule: full", x.rule(0, 0, 2, 2, 5, 6), FULL);
        due.is("after: the refused does nothing", x.after(2), 0);
    }

    // ---- what it is

    private void fiveHundredAndTwelveWordCalls() {
        due.by("An object is used for at most 512 calls (of the word)");
        StackPrograms x = new StackPrograms();
        for (int call = 0; call < 512; call++) {
            int at = call % 32;
            if (at < 31) {
                due.is("push", x.push(call % 12), at < 30 ? at + 1 : FULL);
            } else {
                due.is("drop", x.drop(), 30);
            }
        }
    }

    private void fiveHundredAndTwelveSystemCalls() {
        due.by("An object is used for at most 512 calls (each after a change)");
        StackPrograms x = new StackPrograms();
        x.push(0);
        x.push(0);
        for (int turn = 0; turn < 51; turn++) {
            int p = turn % 8;
            int q = (turn + 1) % 8;
            due.is("clear", x.clear(), turn == 0 ? 0 : 2);
            due.is("rule", x.rule(p, 0, q, 1, 1, 0), 0);
            due.is("rule", x.rule(q, 1, q, 0, 0, 0), 1);
            due.is("arc", x.arc(q, 0, 15), 1);
            due.is("end", x.end(15, 1), 0);
            due.is("far", x.far(p), 2);
            due.is("way", x.way(p, 1), 1);
            due.is("way", x.way(p, 2), NONE);
            due.is("after", x.after(q), 0);
            due.is("lies", x.lies(q), 0);
        }
    }
}
