import java.util.ArrayDeque;
import java.util.ArrayList;
import java.util.Comparator;
import java.util.Deque;
import java.util.HashMap;
import java.util.List;
import java.util.Map;
import java.util.Set;
import java.util.TreeSet;

/** The document once more, written for plainness alone with the whole library, to compare answers with. */
final class Model {
    private static final int BAD = -1, NONE = -2, FULL = -3, DUPLICATE = -4, FAILED = -5, LIMIT = -6;

    /** A rule of a grammar made for least words: a part is a terminal "0" to "7" or the name of a left side. */
    record Rule(String left, List<String> right) {
    }

    private static final class Node {
        final int symbol;
        final Node parent;
        final List<Node> children = new ArrayList<>();
        int number;

        Node(int symbol, Node parent) {
            this.symbol = symbol;
            this.parent = parent;
        }

        int height() {
            int height = 0;
            for (Node child : children) {
                height = Math.max(height, 1 + child.height());
            }
            return height;
        }
    }

    /** A production: its left side, then the symbols. */
    private List<List<Integer>> productions = new ArrayList<>();
    private final List<List<List<Integer>>> history = new ArrayList<>();
    private List<String> setsBefore = null;
    private String input = "";
    private final int[] synchronizing = new int[8];
    private final int[] weights = {1, 1, 1, 1, 1, 1, 1, 1};
    private List<int[]> report = new ArrayList<>();
    private List<Integer> trace = new ArrayList<>();
    private List<int[]> errors = new ArrayList<>();
    private List<Node> nodes = new ArrayList<>();
    private String repaired = null;
    private final Map<String, String> examples = new HashMap<>();
    private Map<String, String> shortest = null;

    // ------------------------------------------------------------ the grammar

    private void edit(List<List<Integer>> next) {
        List<String> sets = describeSets();
        history.add(productions);
        if (history.size() > 10) {
            history.remove(0);
        }
        become(next);
        setsBefore = sets;
    }

    private void become(List<List<Integer>> next) {
        productions = next;
        examples.clear();
        shortest = null;
    }

    private void fail(int... codesAndDetails) {
        report = new ArrayList<>();
        for (int i = 0; i < codesAndDetails.length; i += 2) {
            report.add(new int[] {codesAndDetails[i], codesAndDetails[i + 1]});
        }
    }

    private List<Integer> right(int p) {
        List<Integer> production = productions.get(p);
        return production.subList(1, production.size());
    }

    private int left(int p) {
        return productions.get(p).get(0);
    }

    private boolean has(int p) {
        return p >= 0 && p < productions.size();
    }

    private static boolean range(int n, int from, int to) {
        return n >= from && n <= to;
    }

    int addProduction(int left, int a, int b, int c, int d, int e) {
        List<Integer> production = new ArrayList<>(List.of(left));
        boolean ended = false;
        for (int symbol : new int[] {a, b, c, d, e}) {
            if (symbol == -1) {
                ended = true;
            } else if (ended || !range(symbol, 0, 7) && !range(symbol, 10, 17)) {
                return BAD;
            } else {
                production.add(symbol);
            }
        }
        if (!range(left, 0, 7)) {
            return BAD;
        }
        if (productions.contains(production)) {
            fail(13, left, 14, productions.indexOf(production));
            return DUPLICATE;
        }
        if (productions.size() == 24) {
            return FULL;
        }
        List<List<Integer>> next = new ArrayList<>(productions);
        next.add(production);
        edit(next);
        return productions.size() - 1;
    }

    int removeProduction(int p) {
        if (!has(p)) {
            return BAD;
        }
        List<List<Integer>> next = new ArrayList<>(productions);
        next.remove(p);
        edit(next);
        return productions.size();
    }

    int clear() {
        int removed = productions.size();
        edit(new ArrayList<>());
        return removed;
    }

    int productionCount() {
        return productions.size();
    }

    int leftSide(int p) {
        return has(p) ? left(p) : BAD;
    }

    int rightLength(int p) {
        return has(p) ? right(p).size() : BAD;
    }

    int rightSymbol(int p, int i) {
        return has(p) && range(i, 0, right(p).size() - 1) ? right(p).get(i) : BAD;
    }

    // ------------------------------------------------------------ sets

    private Set<Integer> nullables() {
        Set<Integer> found = new TreeSet<>();
        for (int before = -1; before != found.size();) {
            before = found.size();
            for (int p = 0; p < productions.size(); p++) {
                if (found.containsAll(right(p))) {
                    found.add(10 + left(p));
                }
            }
        }
        return found;
    }

    private Set<Integer> firsts(List<Integer> sequence, Map<Integer, Set<Integer>> known, Set<Integer> nullables) {
        Set<Integer> found = new TreeSet<>();
        for (int i = 0; i < sequence.size(); i++) {
            if (nullables.containsAll(sequence.subList(0, i))) {
                int symbol = sequence.get(i);
                if (symbol < 8) {
                    found.add(symbol);
                } else {
                    found.addAll(known.get(symbol - 10));
                }
            }
        }
        return found;
    }

    private static Map<Integer, Set<Integer>> emptySets() {
        Map<Integer, Set<Integer>> sets = new HashMap<>();
        for (int n = 0; n < 8; n++) {
            sets.put(n, new TreeSet<>());
        }
        return sets;
    }

    private Map<Integer, Set<Integer>> firsts() {
        Map<Integer, Set<Integer>> known = emptySets();
        for (boolean changed = true; changed;) {
            changed = false;
            for (int p = 0; p < productions.size(); p++) {
                changed |= known.get(left(p)).addAll(firsts(right(p), known, nullables()));
            }
        }
        return known;
    }

    private Map<Integer, Set<Integer>> follows() {
        Map<Integer, Set<Integer>> firsts = firsts();
        Map<Integer, Set<Integer>> known = emptySets();
        known.get(0).add(8);
        for (boolean changed = true; changed;) {
            changed = false;
            for (int p = 0; p < productions.size(); p++) {
                for (int i = 0; i < right(p).size(); i++) {
                    if (right(p).get(i) >= 10) {
                        List<Integer> after = right(p).subList(i + 1, right(p).size());
                        Set<Integer> follow = known.get(right(p).get(i) - 10);
                        changed |= follow.addAll(firsts(after, firsts, nullables()));
                        if (nullables().containsAll(after)) {
                            changed |= follow.addAll(known.get(left(p)));
                        }
                    }
                }
            }
        }
        return known;
    }

    private static int bits(Set<Integer> set) {
        int bits = 0;
        for (int element : set) {
            bits |= 1 << element;
        }
        return bits;
    }

    private List<String> describeSets() {
        List<String> described = new ArrayList<>();
        Set<Integer> nullables = nullables();
        Map<Integer, Set<Integer>> firsts = firsts();
        Map<Integer, Set<Integer>> follows = follows();
        for (int n = 0; n < 8; n++) {
            described.add(nullables.contains(10 + n) + " " + firsts.get(n) + " " + follows.get(n));
        }
        return described;
    }

    int nullable(int n) {
        return range(n, 0, 7) ? nullables().contains(10 + n) ? 1 : 0 : BAD;
    }

    int firstSet(int n) {
        return range(n, 0, 7) ? bits(firsts().get(n)) : BAD;
    }

    int followSet(int n) {
        return range(n, 0, 7) ? bits(follows().get(n)) : BAD;
    }

    private Set<Integer> select(int p) {
        Set<Integer> found = firsts(right(p), firsts(), nullables());
        if (nullables().containsAll(right(p))) {
            found.addAll(follows().get(left(p)));
        }
        return found;
    }

    int selectSet(int p) {
        return has(p) ? bits(select(p)) : BAD;
    }

    int changedNonterminals() {
        if (setsBefore == null) {
            return 0;
        }
        int changed = 0;
        List<String> now = describeSets();
        for (int n = 0; n < 8; n++) {
            changed += now.get(n).equals(setsBefore.get(n)) ? 0 : 1;
        }
        return changed;
    }

    // ------------------------------------------------------------ derivations

    int productive(int n) {
        if (!range(n, 0, 7)) {
            return BAD;
        }
        Set<Integer> found = new TreeSet<>(List.of(0, 1, 2, 3, 4, 5, 6, 7));
        for (int before = -1; before != found.size();) {
            before = found.size();
            for (int p = 0; p < productions.size(); p++) {
                if (found.containsAll(right(p))) {
                    found.add(10 + left(p));
                }
            }
        }
        return found.contains(10 + n) ? 1 : 0;
    }

    int reachable(int n) {
        if (!range(n, 0, 7)) {
            return BAD;
        }
        Set<Integer> found = new TreeSet<>();
        Deque<Integer> open = new ArrayDeque<>(List.of(10));
        while (!open.isEmpty()) {
            int symbol = open.pop();
            if (symbol >= 10 && found.add(symbol - 10)) {
                for (int p = 0; p < productions.size(); p++) {
                    if (left(p) == symbol - 10) {
                        open.addAll(right(p));
                    }
                }
            }
        }
        return found.contains(n) ? 1 : 0;
    }

    int leftRecursive(int n) {
        if (!range(n, 0, 7)) {
            return BAD;
        }
        Set<Integer> met = new TreeSet<>();
        Deque<Integer> open = new ArrayDeque<>(List.of(10 + n));
        while (!open.isEmpty()) {
            int symbol = open.pop();
            for (int p = 0; p < productions.size(); p++) {
                for (int i = 0; left(p) == symbol - 10 && i < right(p).size(); i++) {
                    if (nullables().containsAll(right(p).subList(0, i)) && met.add(right(p).get(i))) {
                        open.add(right(p).get(i));
                    }
                }
            }
        }
        return met.contains(10 + n) ? 1 : 0;
    }

    private static String name(String kind, int symbol) {
        return symbol < 8 ? "" + symbol : kind + (symbol - 10);
    }

    private List<Rule> plainRules() {
        List<Rule> rules = new ArrayList<>();
        for (int p = 0; p < productions.size(); p++) {
            rules.add(new Rule("N" + left(p), names(right(p))));
        }
        return rules;
    }

    private static List<String> names(List<Integer> sequence) {
        List<String> names = new ArrayList<>();
        for (int symbol : sequence) {
            names.add(name("N", symbol));
        }
        return names;
    }

    private int weight(String word) {
        return word.chars().map(c -> weights[c - '0']).sum();
    }

    private static final Comparator<String> SHORTEST =
            Comparator.comparing(String::length).thenComparing(Comparator.naturalOrder());

    private Comparator<String> lightest() {
        return Comparator.comparing(String::length).thenComparing(this::weight).thenComparing(Comparator.naturalOrder());
    }

    static Map<String, String> leastWords(List<Rule> rules, Comparator<String> order) {
        Map<String, String> least = new HashMap<>();
        for (int t = 0; t < 8; t++) {
            least.put("" + t, "" + t);
        }
        for (boolean changed = true; changed;) {
            changed = false;
            for (Rule rule : rules) {
                StringBuilder joined = new StringBuilder();
                boolean whole = true;
                for (String part : rule.right()) {
                    whole &= least.containsKey(part);
                    joined.append(least.get(part));
                }
                String word = joined.toString();
                String known = least.get(rule.left());
                if (whole && word.length() <= 40 && (known == null || order.compare(word, known) < 0)) {
                    least.put(rule.left(), word);
                    changed = true;
                }
            }
        }
        return least;
    }

    private static int lengthOf(String word) {
        return word == null ? NONE : word.length();
    }

    private static int terminalOf(String word, int k) {
        return word != null && range(k, 0, word.length() - 1) ? word.charAt(k) - '0' : NONE;
    }

    private String shortestOf(int n) {
        if (shortest == null) {
            shortest = leastWords(plainRules(), SHORTEST);
        }
        return shortest.get("N" + n);
    }

    int shortestLength(int n) {
        return range(n, 0, 7) ? lengthOf(shortestOf(n)) : BAD;
    }

    int shortestTerminal(int n, int k) {
        return range(n, 0, 7) ? terminalOf(shortestOf(n), k) : BAD;
    }

    // ------------------------------------------------------------ the table

    int tableEntry(int n, int token) {
        if (!range(n, 0, 7) || !range(token, 0, 8)) {
            return BAD;
        }
        for (int p = 0; p < productions.size(); p++) {
            if (left(p) == n && select(p).contains(token)) {
                return p;
            }
        }
        return NONE;
    }

    private List<int[]> conflicts() {
        List<int[]> found = new ArrayList<>();
        List<Set<Integer>> selects = new ArrayList<>();
        for (int p = 0; p < productions.size(); p++) {
            selects.add(select(p));
        }
        for (int p = 0; p < productions.size(); p++) {
            for (int q = p + 1; q < productions.size(); q++) {
                for (int token = 0; token < 9; token++) {
                    if (left(p) == left(q) && selects.get(p).contains(token) && selects.get(q).contains(token)) {
                        found.add(new int[] {left(p), token, p, q});
                    }
                }
            }
        }
        found.sort((a, b) -> java.util.Arrays.compare(a, b));
        return found;
    }

    int conflictCount() {
        return conflicts().size();
    }

    int conflict(int i, int what) {
        List<int[]> conflicts = conflicts();
        return range(i, 0, conflicts.size() - 1) && range(what, 0, 3) ? conflicts.get(i)[what] : BAD;
    }

    int conflictKind(int i) {
        List<int[]> conflicts = conflicts();
        if (!range(i, 0, conflicts.size() - 1)) {
            return BAD;
        }
        int[] conflict = conflicts.get(i);
        boolean p = firsts(right(conflict[2]), firsts(), nullables()).contains(conflict[1]);
        boolean q = firsts(right(conflict[3]), firsts(), nullables()).contains(conflict[1]);
        return p && q ? 0 : p || q ? 1 : 2;
    }

    /** S: starts with the token; E: used, nothing behind; M: used, the token behind. */
    private String example(int marked, int token) {
        Set<Integer> nullables = nullables();
        List<Rule> rules = plainRules();
        for (int p = 0; p < productions.size(); p++) {
            List<Integer> right = right(p);
            addStarting(rules, "S" + left(p), List.of(), right, token, nullables);
            if (p == marked) {
                addStarting(rules, "M" + left(p), List.of(), right, token, nullables);
                if (nullables.containsAll(right)) {
                    rules.add(new Rule("E" + left(p), List.of()));
                }
            }
            for (int i = 0; i < right.size(); i++) {
                if (right.get(i) >= 10) {
                    List<Integer> after = right.subList(i + 1, right.size());
                    List<String> met = names(right.subList(0, i));
                    List<String> ended = new ArrayList<>(met);
                    met.add(name("M", right.get(i)));
                    ended.add(name("E", right.get(i)));
                    met.addAll(names(after));
                    rules.add(new Rule("M" + left(p), met));
                    addStarting(rules, "M" + left(p), ended, after, token, nullables);
                    if (nullables.containsAll(after)) {
                        rules.add(new Rule("E" + left(p), ended));
                    }
                }
            }
        }
        return leastWords(rules, SHORTEST).get(token == 8 ? "E0" : "M0");
    }

    private static void addStarting(List<Rule> rules, String left, List<String> head, List<Integer> sequence, int token,
            Set<Integer> nullables) {
        for (int i = 0; i < sequence.size(); i++) {
            int symbol = sequence.get(i);
            if (nullables.containsAll(sequence.subList(0, i)) && (symbol >= 10 || symbol == token)) {
                List<String> parts = new ArrayList<>(head);
                parts.add(name("S", symbol));
                parts.addAll(names(sequence.subList(i + 1, sequence.size())));
                rules.add(new Rule(left, parts));
            }
        }
    }

    private String exampleOf(int[] conflict, int which) {
        String key = conflict[1] + " " + conflict[2 + which];
        if (!examples.containsKey(key)) {
            examples.put(key, example(conflict[2 + which], conflict[1]));
        }
        return examples.get(key);
    }

    int exampleLength(int i, int which) {
        List<int[]> conflicts = conflicts();
        if (!range(i, 0, conflicts.size() - 1) || !range(which, 0, 1)) {
            return BAD;
        }
        return lengthOf(exampleOf(conflicts.get(i), which));
    }

    int exampleTerminal(int i, int which, int k) {
        List<int[]> conflicts = conflicts();
        if (!range(i, 0, conflicts.size() - 1) || !range(which, 0, 1)) {
            return BAD;
        }
        return terminalOf(exampleOf(conflicts.get(i), which), k);
    }

    int check() {
        List<int[]> conflicts = conflicts();
        if (conflicts.isEmpty()) {
            return 0;
        }
        fail(8, conflicts.size(), 9, conflicts.get(0)[0], 10 + conflictKind(0), conflicts.get(0)[1]);
        return FAILED;
    }

    // ------------------------------------------------------------ rewriting

    private int fresh(int n) {
        for (int fresh = 1; fresh < 8; fresh++) {
            boolean used = fresh == n;
            for (int p = 0; p < productions.size(); p++) {
                used |= left(p) == fresh || right(p).contains(10 + fresh);
            }
            if (!used) {
                return fresh;
            }
        }
        return -1;
    }

    private boolean begins(int p, List<Integer> prefix) {
        return right(p).size() >= prefix.size() && right(p).subList(0, prefix.size()).equals(prefix);
    }

    private List<Integer> bestPrefix(int n) {
        for (int length = 5; length > 0; length--) {
            for (int p = 0; p < productions.size(); p++) {
                if (left(p) == n && right(p).size() >= length) {
                    List<Integer> prefix = new ArrayList<>(right(p).subList(0, length));
                    for (int q = 0; q < productions.size(); q++) {
                        if (q != p && left(q) == n && begins(q, prefix)) {
                            return prefix;
                        }
                    }
                }
            }
        }
        return List.of();
    }

    private static List<Integer> production(int left, List<Integer> right, int... more) {
        List<Integer> production = new ArrayList<>(List.of(left));
        production.addAll(right);
        for (int symbol : more) {
            production.add(symbol);
        }
        return production;
    }

    int leftFactor(int n) {
        if (!range(n, 0, 7)) {
            return BAD;
        }
        List<Integer> prefix = bestPrefix(n);
        if (prefix.isEmpty()) {
            return NONE;
        }
        int fresh = fresh(n);
        List<List<Integer>> next = new ArrayList<>();
        List<List<Integer>> appended = new ArrayList<>();
        for (int p = 0; p < productions.size(); p++) {
            if (left(p) != n || !begins(p, prefix)) {
                next.add(productions.get(p));
            } else {
                if (appended.isEmpty()) {
                    next.add(production(n, prefix, 10 + fresh));
                }
                appended.add(production(fresh, right(p).subList(prefix.size(), right(p).size())));
            }
        }
        next.addAll(appended);
        return finishRewriting(n, fresh, next);
    }

    private int finishRewriting(int n, int fresh, List<List<Integer>> next) {
        if (fresh < 0) {
            fail(15, n, 16, 0);
            return FULL;
        }
        if (next.size() > 24) {
            fail(15, n, 17, next.size());
            return FULL;
        }
        edit(next);
        return fresh;
    }

    int removeLeftRecursion(int n) {
        if (!range(n, 0, 7)) {
            return BAD;
        }
        List<Integer> recursive = new ArrayList<>();
        List<Integer> others = new ArrayList<>();
        for (int p = 0; p < productions.size(); p++) {
            if (left(p) == n) {
                (begins(p, List.of(10 + n)) ? recursive : others).add(p);
            }
        }
        if (recursive.isEmpty()) {
            return NONE;
        }
        for (int p : recursive) {
            if (right(p).size() == 1) {
                fail(15, n, 18, p);
                return FAILED;
            }
        }
        if (others.isEmpty()) {
            fail(15, n, 19, recursive.size());
            return FAILED;
        }
        for (int p : others) {
            if (right(p).size() == 5) {
                fail(15, n, 20, p);
                return FAILED;
            }
        }
        int fresh = fresh(n);
        List<List<Integer>> next = new ArrayList<>();
        for (int p = 0; p < productions.size(); p++) {
            if (others.contains(p)) {
                next.add(production(n, right(p), 10 + fresh));
            } else if (!recursive.contains(p)) {
                next.add(productions.get(p));
            }
        }
        for (int p : recursive) {
            next.add(production(fresh, right(p).subList(1, right(p).size()), 10 + fresh));
        }
        next.add(List.of(fresh));
        return finishRewriting(n, fresh, next);
    }

    int undo() {
        if (history.isEmpty()) {
            return NONE;
        }
        List<String> sets = describeSets();
        become(history.remove(history.size() - 1));
        setsBefore = sets;
        return history.size();
    }

    // ------------------------------------------------------------ parsing

    int setSynchronizing(int n, int set) {
        if (!range(n, 0, 7) || !range(set, 0, 511)) {
            return BAD;
        }
        int previous = synchronizing[n];
        synchronizing[n] = set;
        return previous;
    }

    int appendInput(int digits) {
        String text = "" + digits;
        if (!text.matches("[1-8]+")) {
            return BAD;
        }
        if (input.length() + text.length() > 40) {
            return FULL;
        }
        for (char c : text.toCharArray()) {
            input += (char) (c - 1);
        }
        return input.length();
    }

    int clearInput() {
        int removed = input.length();
        input = "";
        return removed;
    }

    int inputTerminal(int k) {
        return terminalOf(input, k);
    }

    String input() {
        return input;
    }

    private int run(boolean recovering) {
        int[][] table = new int[8][9];
        for (int n = 0; n < 8; n++) {
            for (int token = 0; token < 9; token++) {
                table[n][token] = tableEntry(n, token);
            }
        }
        Map<Integer, Set<Integer>> follows = follows();
        trace = new ArrayList<>();
        nodes = new ArrayList<>();
        Node root = new Node(10, null);
        Deque<Node> stack = new ArrayDeque<>();
        stack.push(root);
        int at = 0;
        for (int steps = 0;; steps++) {
            int token = at < input.length() ? input.charAt(at) - '0' : 8;
            if (stack.isEmpty() && token == 8) {
                if (!recovering) {
                    number(root);
                }
                return recovering ? errors.size() : steps;
            }
            int top = stack.isEmpty() ? -1 : stack.peek().symbol;
            int entry = top >= 10 ? table[top - 10][token] : NONE;
            boolean moves = top >= 10 ? entry >= 0 : top == token;
            if (!moves && !recovering) {
                reportParse(at, top, input.length() - at, table);
                return FAILED;
            }
            if (steps == 300 || stack.size() > 60) {
                if (!recovering) {
                    fail(1, at, 7, steps);
                }
                return LIMIT;
            }
            if (moves && top >= 10) {
                trace.add(entry);
                expand(stack, entry);
            } else if (moves) {
                stack.pop();
                at++;
            } else if (top == -1) {
                errors.add(new int[] {at, 3, -1});
                at = input.length();
            } else if (top < 10) {
                errors.add(new int[] {at, 0, top});
                stack.pop();
            } else if (token == 8 || follows.get(top - 10).contains(token) || (synchronizing[top - 10] >> token & 1) == 1) {
                errors.add(new int[] {at, 1, top});
                stack.pop();
            } else {
                errors.add(new int[] {at, 2, top});
                at++;
            }
            if (stack.size() > 60) {
                if (!recovering) {
                    fail(1, at, 7, steps + 1);
                }
                return LIMIT;
            }
        }
    }

    private void expand(Deque<Node> stack, int p) {
        Node node = stack.pop();
        for (int symbol : right(p)) {
            node.children.add(new Node(symbol, node));
        }
        for (int i = node.children.size() - 1; i >= 0; i--) {
            stack.push(node.children.get(i));
        }
    }

    private void number(Node node) {
        node.number = nodes.size();
        nodes.add(node);
        for (Node child : node.children) {
            number(child);
        }
    }

    private void reportParse(int at, int top, int remaining, int[][] table) {
        if (top == -1) {
            fail(1, at, 4, remaining);
        } else if (top < 10) {
            fail(1, at, 2, top);
        } else {
            int own = 0;
            int entries = 0;
            for (int p = 0; p < productions.size(); p++) {
                own += left(p) == top - 10 ? 1 : 0;
            }
            for (int token = 0; token < 9; token++) {
                entries += table[top - 10][token] >= 0 ? 1 : 0;
            }
            if (own == 0) {
                fail(1, at, 3, top - 10, 5, top - 10);
            } else {
                fail(1, at, 3, top - 10, 6, entries);
            }
        }
    }

    int parse() {
        return run(false);
    }

    int recover() {
        errors = new ArrayList<>();
        return run(true);
    }

    int error(int i, int what) {
        if (!range(what, 0, 2)) {
            return BAD;
        }
        return range(i, 0, errors.size() - 1) ? errors.get(i)[what] : NONE;
    }

    int traceLength() {
        return trace.size();
    }

    int trace(int i) {
        return range(i, 0, trace.size() - 1) ? trace.get(i) : NONE;
    }

    int nodeCount() {
        return nodes.size();
    }

    private boolean hasNode(int node) {
        return range(node, 0, nodes.size() - 1);
    }

    int nodeSymbol(int node) {
        return hasNode(node) ? nodes.get(node).symbol : NONE;
    }

    int nodeParent(int node) {
        if (!hasNode(node)) {
            return NONE;
        }
        return node == 0 ? -1 : nodes.get(node).parent.number;
    }

    int nodeHeight(int node) {
        return hasNode(node) ? nodes.get(node).height() : NONE;
    }

    // ------------------------------------------------------------ repair

    int setWeight(int terminal, int weight) {
        if (!range(terminal, 0, 7) || !range(weight, 1, 9)) {
            return BAD;
        }
        int previous = weights[terminal];
        weights[terminal] = weight;
        return previous;
    }

    /** The names are a symbol and the stretch of the input that its word covers. */
    int repair() {
        if (input.length() > 8) {
            return LIMIT;
        }
        List<Rule> rules = new ArrayList<>();
        for (int from = 0; from <= input.length(); from++) {
            for (int t = 0; t < 8; t++) {
                rules.add(new Rule(t + ":" + from + ":" + from, List.of("" + t)));
            }
            if (from < input.length()) {
                String t = input.substring(from, from + 1);
                rules.add(new Rule(t + ":" + from + ":" + (from + 1), List.of(t)));
            }
            for (int p = 0; p < productions.size(); p++) {
                addStretches(rules, p, 0, from, from, List.of());
            }
        }
        String found = leastWords(rules, lightest()).get("10:0:" + input.length());
        if (found == null) {
            return NONE;
        }
        repaired = found;
        return found.length() - input.length();
    }

    private void addStretches(List<Rule> rules, int p, int i, int from, int at, List<String> parts) {
        if (i == right(p).size()) {
            rules.add(new Rule((10 + left(p)) + ":" + from + ":" + at, parts));
            return;
        }
        int symbol = right(p).get(i);
        for (int to = at; to <= input.length(); to++) {
            boolean terminalFits = to == at || to == at + 1 && input.charAt(at) - '0' == symbol;
            if (symbol >= 10 || terminalFits) {
                List<String> more = new ArrayList<>(parts);
                more.add(symbol + ":" + at + ":" + to);
                addStretches(rules, p, i + 1, from, to, more);
            }
        }
    }

    int repairedTerminal(int k) {
        return terminalOf(repaired, k);
    }

    // ------------------------------------------------------------ the failure report

    int failureLevels() {
        return report.size();
    }

    int failureCode(int level) {
        return range(level, 0, report.size() - 1) ? report.get(level)[0] : NONE;
    }

    int failureDetail(int level) {
        return range(level, 0, report.size() - 1) ? report.get(level)[1] : NONE;
    }
}
