import java.util.ArrayList;
import java.util.Arrays;
import java.util.HashMap;
import java.util.HashSet;
import java.util.List;
import java.util.Map;
import java.util.Random;
import java.util.Set;
import java.util.TreeMap;
import java.util.regex.Matcher;
import java.util.regex.Pattern;

/**
 * Promises 13 to 15 against the document's grammar, written down as rows: many texts, most of them broken at some places,
 * are read token by token with all the ways in which the grammar could go on (Earley's way of reading).
 */
final class FaultSearchTest {
    private static final String[][] GRAMMAR = {
        {"PROGRAM", "VARS", "PROCS", "end"},
        {"VARS"}, {"VARS", "var", "NAMES", ";"},
        {"NAMES", "name"}, {"NAMES", "NAMES", ",", "name"},
        {"PROCS", "PROC"}, {"PROCS", "PROCS", "PROC"},
        {"PROC", "proc", "name", "{", "VARS", "STATS", "}"},
        {"STATS"}, {"STATS", "STATS", "STAT"},
        {"STAT", "name", "=", "EXP", ";"},
        {"STAT", "if", "EXP", "{", "STATS", "}"},
        {"STAT", "if", "EXP", "{", "STATS", "}", "else", "{", "STATS", "}"},
        {"STAT", "while", "EXP", "{", "STATS", "}"},
        {"STAT", "call", "name", ";"},
        {"STAT", "assert", "EXP", ";"}, {"STAT", "assume", "EXP", ";"}, {"STAT", "return", ";"}, {"STAT", "skip", ";"},
        {"EXP", "TERM"}, {"EXP", "EXP", "|", "TERM"},
        {"TERM", "FACTOR"}, {"TERM", "TERM", "&", "FACTOR"},
        {"FACTOR", "0"}, {"FACTOR", "1"}, {"FACTOR", "*"}, {"FACTOR", "name"}, {"FACTOR", "!", "FACTOR"},
        {"FACTOR", "(", "EXP", ")"}
    };
    private static final List<String> WORDS = List.of("var", "proc", "if", "else", "while", "call", "assert", "assume",
        "return", "skip");
    /** As told(5, ..) numbers them. */
    private static final List<String> KINDS = List.of("name", "if", "while", "call", "assert", "assume", "return", "skip");
    private static final String[] PIECES = {"var", "proc", "if", "else", "while", "call", "assert", "assume", "return",
        "skip", "a", "b", "c", "d", "e", "m", "n", "q", "a1", "longname", "longnames", "0", "1", "*", "=", ";", ",", "{",
        "}", "(", ")", "!", "&", "|", "?", "2", "A", "\t", " ", "\n", "skip;", "a=1;", "if*{", "}else{", "!!!", "(("};
    private static final Pattern TOKEN = Pattern.compile("[a-z][a-z0-9]*|[^ \n]");

    private final Due due = new Due("FaultSearchTest");
    private final Random random = new Random(20261116);
    private final int[] seen = new int[5];
    private final Map<String, Integer> seenNotAllowed = new TreeMap<>();

    // What the oracle says of a text.
    private int fault;
    private int place;
    private String notAllowed = "";
    private final List<String> tokens = new ArrayList<>();
    private final List<String> kinds = new ArrayList<>();
    private final List<Integer> places = new ArrayList<>();
    private final List<Integer> starts = new ArrayList<>();
    private final List<Integer> owners = new ArrayList<>();
    private final Map<String, Integer> procedures = new HashMap<>();
    private final Set<String> globals = new HashSet<>();
    private final Set<String> locals = new HashSet<>();
    private int braces;
    private final List<String> nested = new ArrayList<>();

    public static void main(String[] args) {
        FaultSearchTest test = new FaultSearchTest();
        int texts = args.length > 0 ? Integer.parseInt(args[0]) : 15000;
        for (int i = 0; i < texts; i++) {
            test.oneText();
        }
        for (int number = 0; number <= 4; number++) {
            test.due.holds("enough of fault " + number + ": " + test.seen[number], test.seen[number] > texts / 100);
        }
        for (String why : List.of("told twice", "no variable in an EXP", "no variable before =", "a fourth global",
            "a third local", "a seventh procedure", "a 41st statement", "an eleventh ( or !", "an eleventh {")) {
            int times = test.seenNotAllowed.getOrDefault(why, 0);
            test.due.holds("enough of " + why + ": " + times, times > texts / 1000);
        }
        test.due.close();
    }

    private void oneText() {
        String text = random.nextInt(40) == 0 ? soup() : broken(program());
        if (text.length() > 600) {
            text = text.substring(0, 600);
        }
        judge(text);
        seen[fault]++;
        if (fault == 3) {
            seenNotAllowed.merge(notAllowed, 1, Integer::sum);
        }
        StackPrograms x = new StackPrograms();
        String name = "[" + text + "] ";
        due.is(name + "read", Due.read(x, text), fault == 0 ? starts.size() : -10 - fault);
        due.is(name + "place", x.place(), fault == 0 ? StackPrograms.NONE : place);
        due.is(name + "globals", x.told(0, 0), fault == 0 ? globals.size() : 0);
        due.is(name + "procedures", x.told(1, 0), fault == 0 ? procedures.size() : 0);
        due.is(name + "statements", x.told(2, 0), fault == 0 ? starts.size() : 0);
        for (int s = 0; s <= starts.size(); s++) {
            boolean isThere = fault == 0 && s < starts.size();
            due.is(name + "told 3 " + s, x.told(3, s), isThere ? places.get(starts.get(s)) : StackPrograms.BAD);
            due.is(name + "told 4 " + s, x.told(4, s), isThere ? owners.get(s) : StackPrograms.BAD);
            due.is(name + "told 5 " + s, x.told(5, s),
                isThere ? KINDS.indexOf(kinds.get(starts.get(s))) : StackPrograms.BAD);
        }
    }

    // ---- the oracle

    private void judge(String text) {
        fault = 0;
        place = -1;
        tokens.clear();
        kinds.clear();
        places.clear();
        Matcher m = TOKEN.matcher(text);
        boolean isWhole = true;
        while (isWhole && m.find()) {
            isWhole = addToken(m.group(), m.start());
        }
        int unknownAt = isWhole ? -1 : m.start();
        if (isWhole) {
            tokens.add("");
            kinds.add("end");
            places.add(text.length());
        }
        int can = firstThatCannotStand();
        int not = firstNotAllowed(can);
        if (not < can) {
            tell(3, places.get(not));
        } else if (can < tokens.size()) {
            tell(2, places.get(can));
        } else if (!isWhole) {
            tell(1, unknownAt);
        } else {
            firstCallOfNone();
        }
    }

    private void tell(int itsFault, int itsPlace) {
        fault = itsFault;
        place = itsPlace;
    }

    /** Whether it is one of the document's tokens. */
    private boolean addToken(String token, int at) {
        boolean isWord = Character.isLowerCase(token.charAt(0)) && token.charAt(0) < 128;
        if (isWord ? token.length() > 8 : !"01*=;,{}()!&|".contains(token)) {
            return false;
        }
        tokens.add(token);
        kinds.add(isWord && !WORDS.contains(token) ? "name" : token);
        places.add(at);
        return true;
    }

    /** The number of the first token with which no program goes on; how many there are, if each can stand. */
    private int firstThatCannotStand() {
        // An item is a row of the grammar, how much of it was read, and where it began.
        List<Set<List<Integer>>> items = new ArrayList<>();
        Set<List<Integer>> first = new HashSet<>();
        first.add(List.of(0, 0, 0));
        items.add(first);
        close(items);
        for (int i = 0; i < kinds.size(); i++) {
            Set<List<Integer>> next = new HashSet<>();
            for (List<Integer> item : items.get(i)) {
                if (kinds.get(i).equals(awaited(item))) {
                    next.add(List.of(item.get(0), item.get(1) + 1, item.get(2)));
                }
            }
            if (next.isEmpty()) {
                return i;
            }
            items.add(next);
            close(items);
        }
        return kinds.size();
    }

    private static String awaited(List<Integer> item) {
        String[] row = GRAMMAR[item.get(0)];
        int read = item.get(1);
        return read + 1 < row.length ? row[read + 1] : null;
    }

    /** All items that come of those of the latest place without a token more. */
    private static void close(List<Set<List<Integer>>> items) {
        int here = items.size() - 1;
        Set<List<Integer>> all = items.get(here);
        boolean isGrown = true;
        while (isGrown) {
            Set<List<Integer>> more = new HashSet<>();
            for (List<Integer> item : all) {
                String wanted = awaited(item);
                String done = wanted == null ? GRAMMAR[item.get(0)][0] : null;
                for (int row = 0; row < GRAMMAR.length && wanted != null; row++) {
                    if (GRAMMAR[row][0].equals(wanted)) {
                        more.add(List.of(row, 0, here));
                    }
                }
                if (done != null) {
                    for (List<Integer> from : items.get(item.get(2))) {
                        if (done.equals(awaited(from))) {
                            more.add(List.of(from.get(0), from.get(1) + 1, from.get(2)));
                        }
                    }
                }
            }
            isGrown = all.addAll(more);
        }
    }

    /** The number of the first token, of those before a number, that fault 3 is told of. */
    private int firstNotAllowed(int before) {
        starts.clear();
        owners.clear();
        procedures.clear();
        globals.clear();
        locals.clear();
        nested.clear();
        braces = 0;
        for (int i = 0; i < before; i++) {
            if (!isAllowed(i)) {
                return i;
            }
        }
        return before;
    }

    /** Notes why, if it is not. */
    private boolean allow(boolean is, String why) {
        notAllowed = is ? notAllowed : why;
        return is;
    }

    private boolean isAllowed(int i) {
        String kind = kinds.get(i);
        String behind = i == 0 ? "" : kinds.get(i - 1);
        boolean isStart = braces > 0 && List.of("{", "}", ";").contains(behind) && KINDS.contains(kind);
        if (isStart) {
            starts.add(i);
            owners.add(procedures.size() - 1);
            nested.clear();
            return allow(starts.size() <= 40, "a 41st statement")
                && allow(!kind.equals("name") || isVariable(tokens.get(i)), "no variable before =");
        }
        switch (kind) {
            case "name":
                return isAllowedName(tokens.get(i), behind);
            case "{":
                braces++;
                return allow(braces <= 10, "an eleventh {");
            case "}":
                braces--;
                return true;
            case "(":
            case "!":
                nested.add(kind);
                return allow(nested.size() <= 10, "an eleventh ( or !");
            case ")":
                closeNested();
                return true;
            case "0":
            case "1":
            case "*":
                closeNots();
                return true;
            default:
                return true;
        }
    }

    private boolean isVariable(String name) {
        return globals.contains(name) || locals.contains(name);
    }

    private boolean isAllowedName(String name, String behind) {
        switch (behind) {
            case "proc":
                locals.clear();
                return allow(procedures.put(name, procedures.size()) == null, "told twice")
                    && allow(procedures.size() <= 6, "a seventh procedure");
            case "call":
                return true;
            case "var":
            case ",":
                boolean isNew = !isVariable(name);
                (braces > 0 ? locals : globals).add(name);
                return allow(isNew, "told twice") && allow(globals.size() <= 3, "a fourth global")
                    && allow(locals.size() <= 2, "a third local");
            default:
                closeNots();
                return allow(isVariable(name), "no variable in an EXP");
        }
    }

    /** A factor has ended, and so have all ! right before it. */
    private void closeNots() {
        while (!nested.isEmpty() && nested.get(nested.size() - 1).equals("!")) {
            nested.remove(nested.size() - 1);
        }
    }

    private void closeNested() {
        nested.remove(nested.lastIndexOf("("));
        closeNots();
    }

    private void firstCallOfNone() {
        for (int i = 0; i + 1 < tokens.size(); i++) {
            if (kinds.get(i).equals("call") && !procedures.containsKey(tokens.get(i + 1))) {
                tell(4, places.get(i + 1));
                return;
            }
        }
    }

    // ---- the texts

    private String pick(String... choices) {
        return choices[random.nextInt(choices.length)];
    }

    private String piece() {
        return PIECES[random.nextInt(PIECES.length)];
    }

    private String soup() {
        StringBuilder text = new StringBuilder(pick("", "proc m{", "var a;proc m{var b;", "var "));
        for (int i = random.nextInt(12); i > 0; i--) {
            text.append(piece()).append(pick("", " "));
        }
        return text.toString();
    }

    private String names(int most) {
        if (random.nextInt(15) == 0) {
            return "";
        }
        String[] all = {"a", "b", random.nextInt(8) == 0 ? "a" : "c", "d"};
        int n = Math.min(2 + random.nextInt(most), most);
        return "var " + String.join(",", Arrays.copyOf(all, random.nextInt(12) == 0 ? most + 1 : n)) + ";";
    }

    private String program() {
        boolean isLocal = random.nextBoolean();
        StringBuilder text = new StringBuilder(isLocal ? "" : names(3));
        int n = random.nextInt(12) == 0 ? 6 + random.nextInt(2) : 1 + random.nextInt(3);
        for (int i = 0; i < n; i++) {
            String own = isLocal ? names(2) : random.nextInt(6) == 0 ? pick("var e;", "var e;", "var d,a;") : "";
            text.append("proc ").append("mnabcde".charAt(random.nextInt(20) == 0 ? 0 : i)).append(pick("{", " { "));
            text.append(own).append(block(1, random.nextInt(12) == 0 ? 45 : 4)).append(pick("}", " }\n"));
        }
        return text.toString();
    }

    private String block(int open, int most) {
        StringBuilder text = new StringBuilder();
        for (int i = random.nextInt(most + 1); i > 0; i--) {
            text.append(most > 10 && random.nextInt(8) > 0 ? "skip;" : statement(open));
        }
        return text.toString();
    }

    private String statement(int open) {
        switch (random.nextInt(9)) {
            case 0:
                return "if " + exp(0) + inBraces(open);
            case 1:
                return "if " + exp(0) + inBraces(open) + "else" + inBraces(open);
            case 2:
                return "while " + exp(0) + inBraces(open);
            case 3:
                return "call " + pick("m", "m", "m", "m", "n", "a") + ";";
            case 4:
                return "assert " + exp(0) + ";";
            case 5:
                return "assume " + exp(0) + ";\n";
            case 6:
                return pick("return;", "skip ;");
            default:
                return pick("a", "a", "a", "b") + pick("=", " = ") + exp(0) + ";";
        }
    }

    private String inBraces(int open) {
        if (open < 11 && random.nextInt(25) == 0) {
            return "{" + "while*{".repeat(10 - open) + pick("", "if 1{}") + "}".repeat(11 - open);
        }
        return "{" + (open < 4 ? block(open + 1, 2) : "") + "}";
    }

    private String exp(int depth) {
        switch (random.nextInt(depth > 4 ? 4 : 9)) {
            case 0:
                return "*";
            case 1:
                return pick("0", "1");
            case 2:
            case 3:
                return pick("a", "a", "a", "a", "b");
            case 4:
                return "!" + exp(depth + 2);
            case 5:
                return "(" + exp(depth + 1) + ")";
            case 6:
                return exp(depth + 1) + pick("&", " & ") + exp(depth + 1);
            case 7:
                return exp(depth + 1) + pick("|", "\n|") + exp(depth + 1);
            default:
                int n = random.nextInt(30) == 0 ? 11 - random.nextInt(3) : random.nextInt(3);
                return "(!".repeat(n / 2) + "!".repeat(n % 2) + "1" + ")".repeat(n / 2);
        }
    }

    /** Some pieces gone, come or changed, at a place each. */
    private String broken(String whole) {
        StringBuilder text = new StringBuilder(whole);
        for (int i = random.nextInt(3); i > 0 && text.length() > 0; i--) {
            int at = random.nextInt(text.length());
            int to = Math.min(text.length(), at + (random.nextBoolean() ? 1 : 1 + random.nextInt(5)));
            switch (random.nextInt(5)) {
                case 0:
                    text.delete(at, to);
                    break;
                case 1:
                    text.insert(at, piece());
                    break;
                case 2:
                    text.replace(at, to, piece());
                    break;
                case 3:
                    text.setLength(at);
                    break;
                default:
                    text.insert(at, text.substring(at, to));
            }
        }
        return text.toString();
    }
}
