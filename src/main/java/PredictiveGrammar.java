/** A workbench for LL(1) grammars; README.md tells its use, the promises stand in shared/DOC.md. */
public final class PredictiveGrammar {
    public static final int BAD = -1;
    public static final int NONE = -2;
    public static final int FULL = -3;
    public static final int DUPLICATE = -4;
    public static final int FAILED = -5;
    public static final int LIMIT = -6;

    private static final int TERMINALS = 8;
    private static final int NONTERMINALS = 8;
    private static final int START = 0;
    /** As a symbol, nonterminal n is written FIRST_NONTERMINAL + n. */
    private static final int FIRST_NONTERMINAL = 10;
    private static final int SYMBOLS = FIRST_NONTERMINAL + NONTERMINALS;
    private static final int NO_SYMBOL = -1;
    private static final int END = 8;
    private static final int TOKENS = 9;
    private static final int MOST_SET = (1 << TOKENS) - 1;

    private static final int MOST_PRODUCTIONS = 24;
    private static final int MOST_RIGHT = 5;
    private static final int MOST_EDITS = 10;
    private static final int MOST_TERMINALS = 40;
    private static final int MOST_STEPS = 300;
    private static final int MOST_STACK = 60;
    private static final int MOST_REPAIRED = 8;
    private static final int MOST_WEIGHT = 9;

    /** Each round but the last changes one of fewer than a hundred bits or words, so no run comes near. */
    private static final int ROUNDS = 1000;

    private final Rules rules;
    private final History history;
    private final Sets sets;
    private final Sets setsBefore;
    private final Table table;
    private final Failure failure;
    private final Input input;
    private final Parser parser;
    private final Examples examples;
    private final Repairer repairer;

    public PredictiveGrammar() {
        rules = new Rules();
        history = new History();
        sets = new Sets();
        setsBefore = new Sets();
        table = new Table(rules, sets);
        failure = new Failure();
        input = new Input();
        parser = new Parser(rules, sets, table, input);
        examples = new Examples(rules);
        repairer = new Repairer(rules, input);
        sets.compute(rules);
        setsBefore.become(sets);
    }

    // ---------------------------------------------------------------- the grammar

    public int addProduction(int left, int first, int second, int third, int fourth, int fifth) {
        if (!isNonterminal(left)) {
            return BAD;
        }
        int code = Rules.emptyOf(left);
        code = Rules.extendedByArgument(code, 0, first);
        code = Rules.extendedByArgument(code, 1, second);
        code = Rules.extendedByArgument(code, 2, third);
        code = Rules.extendedByArgument(code, 3, fourth);
        code = Rules.extendedByArgument(code, 4, fifth);
        if (code < 0) {
            return BAD;
        }
        int equal = rules.find(code);
        if (equal >= 0) {
            failure.begin(Failure.NOT_ADDED, left);
            failure.because(Failure.EQUAL_PRODUCTION, equal);
            return DUPLICATE;
        }
        if (rules.count >= MOST_PRODUCTIONS) {
            return FULL;
        }
        beginEdit();
        rules.add(code);
        endChange();
        return rules.count - 1;
    }

    public int removeProduction(int p) {
        if (!rules.has(p)) {
            return BAD;
        }
        beginEdit();
        rules.removeAt(p);
        endChange();
        return rules.count;
    }

    public int clear() {
        int removed = rules.count;
        beginEdit();
        rules.removeAll();
        endChange();
        return removed;
    }

    public int productionCount() {
        return rules.count;
    }

    public int leftSide(int p) {
        return rules.has(p) ? Rules.leftOf(rules.codes[p]) : BAD;
    }

    public int rightLength(int p) {
        return rules.has(p) ? Rules.lengthOf(rules.codes[p]) : BAD;
    }

    public int rightSymbol(int p, int i) {
        if (!rules.has(p) || i < 0 || i >= Rules.lengthOf(rules.codes[p])) {
            return BAD;
        }
        return Rules.symbolOf(rules.codes[p], i);
    }

    // ---------------------------------------------------------------- sets and derivations

    public int nullable(int n) {
        return isNonterminal(n) ? bit(sets.nullable, n) : BAD;
    }

    public int firstSet(int n) {
        return isNonterminal(n) ? sets.first[n] : BAD;
    }

    public int followSet(int n) {
        return isNonterminal(n) ? sets.follow[n] : BAD;
    }

    public int selectSet(int p) {
        return rules.has(p) ? table.select[p] : BAD;
    }

    public int changedNonterminals() {
        return sets.differences(setsBefore);
    }

    public int productive(int n) {
        return isNonterminal(n) ? bit(sets.productiveOnes(rules), n) : BAD;
    }

    public int reachable(int n) {
        return isNonterminal(n) ? bit(sets.reachableOnes(rules), n) : BAD;
    }

    public int leftRecursive(int n) {
        return isNonterminal(n) ? bit(sets.leftRecursiveOnes(rules), n) : BAD;
    }

    public int shortestLength(int n) {
        return isNonterminal(n) ? examples.words.lengthOf(examples.shortestWord(n)) : BAD;
    }

    public int shortestTerminal(int n, int k) {
        return isNonterminal(n) ? examples.words.terminalOf(examples.shortestWord(n), k) : BAD;
    }

    // ---------------------------------------------------------------- the table and its conflicts

    public int tableEntry(int n, int token) {
        if (!isNonterminal(n) || token < 0 || token > END) {
            return BAD;
        }
        return table.entry(n, token);
    }

    public int conflictCount() {
        return table.conflicts;
    }

    public int conflict(int i, int what) {
        if (!isConflict(i) || what < 0 || what > 3) {
            return BAD;
        }
        return Table.partOf(table.conflictAt(i), what);
    }

    public int conflictKind(int i) {
        return isConflict(i) ? table.kindOf(table.conflictAt(i)) : BAD;
    }

    public int exampleLength(int i, int which) {
        if (!isConflict(i) || which < 0 || which > 1) {
            return BAD;
        }
        return examples.words.lengthOf(exampleWord(i, which));
    }

    public int exampleTerminal(int i, int which, int k) {
        if (!isConflict(i) || which < 0 || which > 1) {
            return BAD;
        }
        return examples.words.terminalOf(exampleWord(i, which), k);
    }

    public int check() {
        if (table.conflicts == 0) {
            return 0;
        }
        int conflict = table.conflictAt(0);
        failure.begin(Failure.CONFLICTS, table.conflicts);
        failure.because(Failure.CONFLICT_OF, Table.partOf(conflict, Table.NONTERMINAL));
        failure.because(Failure.CONFLICT_KIND + table.kindOf(conflict), Table.partOf(conflict, Table.TOKEN));
        return FAILED;
    }

    // ---------------------------------------------------------------- rewriting and undoing

    public int leftFactor(int n) {
        if (!isNonterminal(n)) {
            return BAD;
        }
        int prefix = rules.longestCommonPrefix(n);
        if (prefix == 0) {
            return NONE;
        }
        int fresh = rules.unusedNonterminal(n);
        if (leavesNoRoom(n, fresh)) {
            return FULL;
        }
        rules.factor(beginEdit(), n, prefix, fresh);
        endChange();
        return fresh;
    }

    public int removeLeftRecursion(int n) {
        if (!isNonterminal(n)) {
            return BAD;
        }
        if (rules.recursiveOf(n) == 0) {
            return NONE;
        }
        if (hindersRemoval(n)) {
            return FAILED;
        }
        int fresh = rules.unusedNonterminal(n);
        if (leavesNoRoom(n, fresh)) {
            return FULL;
        }
        rules.turnRecursion(beginEdit(), n, fresh);
        endChange();
        return fresh;
    }

    public int undo() {
        if (history.size == 0) {
            return NONE;
        }
        setsBefore.become(sets);
        history.restore(rules);
        endChange();
        return history.size;
    }

    // ---------------------------------------------------------------- input, parsing and recovery

    public int setSynchronizing(int n, int set) {
        if (!isNonterminal(n) || set < 0 || set > MOST_SET) {
            return BAD;
        }
        int previous = parser.synchronizing[n];
        parser.synchronizing[n] = set;
        return previous;
    }

    public int appendInput(int digits) {
        int more = Input.terminalsIn(digits);
        if (more == 0) {
            return BAD;
        }
        if (input.length + more > MOST_TERMINALS) {
            return FULL;
        }
        input.append(digits, more);
        return input.length;
    }

    public int clearInput() {
        int removed = input.length;
        input.length = 0;
        return removed;
    }

    public int inputTerminal(int k) {
        return k >= 0 && k < input.length ? input.terminals[k] : NONE;
    }

    public int parse() {
        int result = parser.parseInput();
        if (result < 0) {
            parser.explain(failure, result);
        }
        return result;
    }

    public int recover() {
        return parser.recoverInput();
    }

    public int error(int i, int what) {
        if (what < 0 || what > 2) {
            return BAD;
        }
        return parser.errorPart(i, what);
    }

    public int traceLength() {
        return parser.traceLength;
    }

    public int trace(int i) {
        return i >= 0 && i < parser.traceLength ? parser.trace[i] : NONE;
    }

    public int nodeCount() {
        return parser.tree.count;
    }

    public int nodeSymbol(int node) {
        return parser.tree.has(node) ? parser.tree.symbols[node] : NONE;
    }

    public int nodeParent(int node) {
        return parser.tree.has(node) ? parser.tree.parents[node] : NONE;
    }

    public int nodeHeight(int node) {
        return parser.tree.has(node) ? parser.tree.heights[node] : NONE;
    }

    // ---------------------------------------------------------------- least insertions

    public int setWeight(int terminal, int weight) {
        if (terminal < 0 || terminal >= TERMINALS || weight < 1 || weight > MOST_WEIGHT) {
            return BAD;
        }
        int previous = repairer.weights[terminal];
        repairer.weights[terminal] = weight;
        return previous;
    }

    public int repair() {
        if (input.length > MOST_REPAIRED) {
            return LIMIT;
        }
        return repairer.findLeastInsertions();
    }

    public int repairedTerminal(int k) {
        return repairer.words.terminalOf(Repairer.KEPT, k);
    }

    // ---------------------------------------------------------------- the failure report

    public int failureLevels() {
        return failure.levels;
    }

    public int failureCode(int level) {
        return failure.has(level) ? failure.codes[level] : NONE;
    }

    public int failureDetail(int level) {
        return failure.has(level) ? failure.details[level] : NONE;
    }

    // ---------------------------------------------------------------- what the face shares

    private static boolean isNonterminal(int n) {
        return n >= 0 && n < NONTERMINALS;
    }

    private static int bit(int set, int i) {
        return (set >> i) & 1;
    }

    private boolean isConflict(int i) {
        return i >= 0 && i < table.conflicts;
    }

    private int exampleWord(int i, int which) {
        int conflict = table.conflictAt(i);
        int production = Table.partOf(conflict, Table.LOWER + which);
        return examples.exampleWord(production, Table.partOf(conflict, Table.TOKEN));
    }

    /** Returns the productions as they were, for edits that build theirs from them. */
    private Rules beginEdit() {
        setsBefore.become(sets);
        return history.save(rules);
    }

    private void endChange() {
        sets.compute(rules);
        table.compute();
        examples.forget();
    }

    /** Both ways of rewriting leave one production more than there was. */
    private boolean leavesNoRoom(int n, int fresh) {
        if (fresh < 0) {
            reportRewriting(n, Failure.NO_NONTERMINAL, 0);
            return true;
        }
        if (rules.count >= MOST_PRODUCTIONS) {
            reportRewriting(n, Failure.TOO_MANY_PRODUCTIONS, rules.count + 1);
            return true;
        }
        return false;
    }

    private boolean hindersRemoval(int n) {
        int alone = rules.find(Rules.extended(Rules.emptyOf(n), FIRST_NONTERMINAL + n));
        if (alone >= 0) {
            reportRewriting(n, Failure.RECURSIVE_ALONE, alone);
            return true;
        }
        int own = rules.productionsOf(n);
        if (rules.recursiveOf(n) == own) {
            reportRewriting(n, Failure.ALL_RECURSIVE, own);
            return true;
        }
        int filled = rules.lowestFilledOther(n);
        if (filled >= 0) {
            reportRewriting(n, Failure.RIGHT_SIDE_FILLED, filled);
            return true;
        }
        return false;
    }

    private void reportRewriting(int n, int code, int detail) {
        failure.begin(Failure.NOT_REWRITTEN, n);
        failure.because(code, detail);
    }

    // ---------------------------------------------------------------- the productions

    /**
     * The list of productions. A production is one number, so that equal ones are equal numbers and a
     * list is copied as a row: its left side, the length of its right side, then five bits a symbol.
     */
    private static final class Rules {
        private static final int LENGTH_AT = 3;
        private static final int SYMBOLS_AT = 6;
        private static final int SYMBOL_BITS = 5;
        private static final int NOT_A_CODE = -1;

        final int[] codes = new int[MOST_PRODUCTIONS];
        int count;

        static int emptyOf(int left) {
            return left;
        }

        static int leftOf(int code) {
            return code & 7;
        }

        static int lengthOf(int code) {
            return (code >> LENGTH_AT) & 7;
        }

        static int symbolOf(int code, int i) {
            return (code >> (SYMBOLS_AT + SYMBOL_BITS * i)) & 31;
        }

        static boolean isOf(int code, int left) {
            return leftOf(code) == left;
        }

        static boolean isRecursive(int code) {
            return lengthOf(code) > 0 && symbolOf(code, 0) == FIRST_NONTERMINAL + leftOf(code);
        }

        static int extended(int code, int symbol) {
            int length = lengthOf(code);
            return code + (1 << LENGTH_AT) + (symbol << (SYMBOLS_AT + SYMBOL_BITS * length));
        }

        /** NOT_A_CODE if the argument is no symbol, or is one behind a -1 that ended the right side. */
        static int extendedByArgument(int code, int position, int symbol) {
            if (code < 0 || symbol == NO_SYMBOL) {
                return code;
            }
            boolean terminal = symbol >= 0 && symbol < TERMINALS;
            boolean nonterminal = symbol >= FIRST_NONTERMINAL && symbol < SYMBOLS;
            if (lengthOf(code) != position || !terminal && !nonterminal) {
                return NOT_A_CODE;
            }
            return extended(code, symbol);
        }

        static int nonterminalsIn(int code) {
            int found = 0;
            for (int i = 0; i < lengthOf(code); i++) {
                int symbol = symbolOf(code, i);
                if (symbol >= FIRST_NONTERMINAL) {
                    found |= 1 << (symbol - FIRST_NONTERMINAL);
                }
            }
            return found;
        }

        static int prefixOf(int code, int length) {
            int prefix = emptyOf(leftOf(code));
            for (int i = 0; i < length; i++) {
                prefix = extended(prefix, symbolOf(code, i));
            }
            return prefix;
        }

        static int suffixOf(int code, int from, int left) {
            int suffix = emptyOf(left);
            for (int i = from; i < lengthOf(code); i++) {
                suffix = extended(suffix, symbolOf(code, i));
            }
            return suffix;
        }

        static int commonPrefix(int one, int other) {
            int most = Math.min(lengthOf(one), lengthOf(other));
            for (int i = 0; i < most; i++) {
                if (symbolOf(one, i) != symbolOf(other, i)) {
                    return i;
                }
            }
            return most;
        }

        boolean has(int p) {
            return p >= 0 && p < count;
        }

        int find(int code) {
            for (int p = 0; p < count; p++) {
                if (codes[p] == code) {
                    return p;
                }
            }
            return -1;
        }

        void add(int code) {
            if (count < MOST_PRODUCTIONS) {
                codes[count] = code;
                count++;
            }
        }

        void removeAt(int p) {
            for (int later = p + 1; later < count; later++) {
                codes[later - 1] = codes[later];
            }
            count--;
        }

        void removeAll() {
            count = 0;
        }

        void become(Rules other) {
            System.arraycopy(other.codes, 0, codes, 0, other.count);
            count = other.count;
        }

        int productionsOf(int n) {
            int found = 0;
            for (int p = 0; p < count; p++) {
                if (isOf(codes[p], n)) {
                    found++;
                }
            }
            return found;
        }

        int recursiveOf(int n) {
            int found = 0;
            for (int p = 0; p < count; p++) {
                if (isOf(codes[p], n) && isRecursive(codes[p])) {
                    found++;
                }
            }
            return found;
        }

        int lowestFilledOther(int n) {
            for (int p = 0; p < count; p++) {
                int code = codes[p];
                if (isOf(code, n) && !isRecursive(code) && lengthOf(code) == MOST_RIGHT) {
                    return p;
                }
            }
            return -1;
        }

        int unusedNonterminal(int n) {
            int used = (1 << START) | (1 << n);
            for (int p = 0; p < count; p++) {
                int code = codes[p];
                used |= (1 << leftOf(code)) | nonterminalsIn(code);
            }
            for (int fresh = 0; fresh < NONTERMINALS; fresh++) {
                if (bit(used, fresh) == 0) {
                    return fresh;
                }
            }
            return -1;
        }

        int longestCommonPrefix(int n) {
            int longest = 0;
            for (int p = 0; p < count; p++) {
                longest = Math.max(longest, prefixSharedAfter(p, n));
            }
            return longest;
        }

        /** The longest prefix that production p of n shares with a later one of n. */
        private int prefixSharedAfter(int p, int n) {
            int longest = 0;
            for (int q = p + 1; q < count && isOf(codes[p], n); q++) {
                if (isOf(codes[q], n)) {
                    longest = Math.max(longest, commonPrefix(codes[p], codes[q]));
                }
            }
            return longest;
        }

        /** The code of the lowest production of n that shares so long a prefix; it shares it with a later one. */
        private int leadWithPrefix(int n, int length) {
            for (int p = 0; p < count; p++) {
                if (prefixSharedAfter(p, n) == length) {
                    return codes[p];
                }
            }
            return NOT_A_CODE;
        }

        /** Becomes the old productions with the longest prefix of n factored out. */
        void factor(Rules old, int n, int length, int fresh) {
            int lead = old.leadWithPrefix(n, length);
            if (lead < 0) {
                return;
            }
            removeAll();
            for (int p = 0; p < old.count; p++) {
                int code = old.codes[p];
                if (code == lead) {
                    add(extended(prefixOf(code, length), FIRST_NONTERMINAL + fresh));
                } else if (!isOf(code, n) || commonPrefix(code, lead) < length) {
                    add(code);
                }
            }
            for (int p = 0; p < old.count; p++) {
                int code = old.codes[p];
                if (isOf(code, n) && commonPrefix(code, lead) >= length) {
                    add(suffixOf(code, length, fresh));
                }
            }
        }

        /** Becomes the old productions with the direct left recursion of n turned into a right one. */
        void turnRecursion(Rules old, int n, int fresh) {
            int symbol = FIRST_NONTERMINAL + fresh;
            removeAll();
            for (int p = 0; p < old.count; p++) {
                int code = old.codes[p];
                if (!isOf(code, n)) {
                    add(code);
                } else if (!isRecursive(code)) {
                    add(extended(code, symbol));
                }
            }
            for (int p = 0; p < old.count; p++) {
                int code = old.codes[p];
                if (isOf(code, n) && isRecursive(code)) {
                    add(extended(suffixOf(code, 1, fresh), symbol));
                }
            }
            add(emptyOf(fresh));
        }
    }

    /** The productions as they were before each of the latest edits, in a ring. */
    private static final class History {
        private final Rules[] saved = new Rules[MOST_EDITS];
        private int newest;
        int size;

        History() {
            for (int i = 0; i < MOST_EDITS; i++) {
                saved[i] = new Rules();
            }
        }

        Rules save(Rules rules) {
            newest = (newest + 1) % MOST_EDITS;
            size = Math.min(size + 1, MOST_EDITS);
            saved[newest].become(rules);
            return saved[newest];
        }

        void restore(Rules rules) {
            rules.become(saved[newest]);
            newest = (newest + MOST_EDITS - 1) % MOST_EDITS;
            size--;
        }
    }

    // ---------------------------------------------------------------- what follows from the productions

    /** The nullable nonterminals, the first and follow sets, and what few ask for, computed when asked. */
    private static final class Sets {
        int nullable;
        final int[] first = new int[NONTERMINALS];
        final int[] follow = new int[NONTERMINALS];
        /** For each nonterminal, those with which a sequence that it derives can begin. */
        private final int[] begins = new int[NONTERMINALS];

        void become(Sets other) {
            nullable = other.nullable;
            System.arraycopy(other.first, 0, first, 0, NONTERMINALS);
            System.arraycopy(other.follow, 0, follow, 0, NONTERMINALS);
        }

        int differences(Sets other) {
            int changed = 0;
            for (int n = 0; n < NONTERMINALS; n++) {
                boolean same = bit(nullable, n) == bit(other.nullable, n)
                        && first[n] == other.first[n] && follow[n] == other.follow[n];
                if (!same) {
                    changed++;
                }
            }
            return changed;
        }

        void compute(Rules rules) {
            nullable = 0;
            for (int n = 0; n < NONTERMINALS; n++) {
                first[n] = 0;
                follow[n] = 0;
            }
            follow[START] = 1 << END;
            computeNullable(rules);
            computeFirst(rules);
            computeFollow(rules);
        }

        private void computeNullable(Rules rules) {
            boolean changed = true;
            for (int round = 0; round < ROUNDS && changed; round++) {
                int known = nullable;
                for (int p = 0; p < rules.count; p++) {
                    if (vanishes(rules.codes[p], 0)) {
                        nullable |= 1 << Rules.leftOf(rules.codes[p]);
                    }
                }
                changed = nullable != known;
            }
        }

        private void computeFirst(Rules rules) {
            boolean changed = true;
            for (int round = 0; round < ROUNDS && changed; round++) {
                changed = false;
                for (int p = 0; p < rules.count; p++) {
                    int left = Rules.leftOf(rules.codes[p]);
                    int known = first[left];
                    first[left] |= firstFrom(rules.codes[p], 0);
                    changed = changed || first[left] != known;
                }
            }
        }

        private void computeFollow(Rules rules) {
            boolean changed = true;
            for (int round = 0; round < ROUNDS && changed; round++) {
                changed = false;
                for (int p = 0; p < rules.count; p++) {
                    changed = spreadFollow(rules.codes[p]) || changed;
                }
            }
        }

        /** Goes from the end of the right side to its start, and carries what may follow. */
        private boolean spreadFollow(int code) {
            boolean changed = false;
            int behind = follow[Rules.leftOf(code)];
            for (int i = Rules.lengthOf(code) - 1; i >= 0; i--) {
                int symbol = Rules.symbolOf(code, i);
                if (symbol >= FIRST_NONTERMINAL) {
                    int n = symbol - FIRST_NONTERMINAL;
                    changed = changed || (behind & ~follow[n]) != 0;
                    follow[n] |= behind;
                }
                behind = isNullable(symbol) ? behind | firstOf(symbol) : firstOf(symbol);
            }
            return changed;
        }

        boolean isNullable(int symbol) {
            return symbol >= FIRST_NONTERMINAL && bit(nullable, symbol - FIRST_NONTERMINAL) == 1;
        }

        private int firstOf(int symbol) {
            return symbol >= FIRST_NONTERMINAL ? first[symbol - FIRST_NONTERMINAL] : 1 << symbol;
        }

        boolean vanishes(int code, int from) {
            for (int i = from; i < Rules.lengthOf(code); i++) {
                if (!isNullable(Rules.symbolOf(code, i))) {
                    return false;
                }
            }
            return true;
        }

        int firstFrom(int code, int from) {
            int set = 0;
            for (int i = from; i < Rules.lengthOf(code); i++) {
                set |= firstOf(Rules.symbolOf(code, i));
                if (!isNullable(Rules.symbolOf(code, i))) {
                    return set;
                }
            }
            return set;
        }

        int productiveOnes(Rules rules) {
            int found = 0;
            boolean changed = true;
            for (int round = 0; round < ROUNDS && changed; round++) {
                int known = found;
                for (int p = 0; p < rules.count; p++) {
                    int code = rules.codes[p];
                    if ((Rules.nonterminalsIn(code) & ~found) == 0) {
                        found |= 1 << Rules.leftOf(code);
                    }
                }
                changed = found != known;
            }
            return found;
        }

        int reachableOnes(Rules rules) {
            int found = 1 << START;
            boolean changed = true;
            for (int round = 0; round < ROUNDS && changed; round++) {
                int known = found;
                for (int p = 0; p < rules.count; p++) {
                    int code = rules.codes[p];
                    if (bit(found, Rules.leftOf(code)) == 1) {
                        found |= Rules.nonterminalsIn(code);
                    }
                }
                changed = found != known;
            }
            return found;
        }

        int leftRecursiveOnes(Rules rules) {
            for (int n = 0; n < NONTERMINALS; n++) {
                begins[n] = 0;
            }
            for (int p = 0; p < rules.count; p++) {
                begins[Rules.leftOf(rules.codes[p])] |= nonterminalsThatBegin(rules.codes[p]);
            }
            closeBegins();
            int found = 0;
            for (int n = 0; n < NONTERMINALS; n++) {
                found |= begins[n] & (1 << n);
            }
            return found;
        }

        private void closeBegins() {
            for (int middle = 0; middle < NONTERMINALS; middle++) {
                for (int n = 0; n < NONTERMINALS; n++) {
                    if (bit(begins[n], middle) == 1) {
                        begins[n] |= begins[middle];
                    }
                }
            }
        }

        private int nonterminalsThatBegin(int code) {
            int found = 0;
            for (int i = 0; i < Rules.lengthOf(code); i++) {
                int symbol = Rules.symbolOf(code, i);
                if (symbol >= FIRST_NONTERMINAL) {
                    found |= 1 << (symbol - FIRST_NONTERMINAL);
                }
                if (!isNullable(symbol)) {
                    return found;
                }
            }
            return found;
        }
    }

    /** The select sets, the table and its conflicts. A conflict is one number with four parts. */
    private static final class Table {
        static final int NONTERMINAL = 0;
        static final int TOKEN = 1;
        static final int LOWER = 2;
        private static final int PART_BITS = 5;
        private static final int PARTS = 4;
        private static final int CELLS = NONTERMINALS * TOKENS;

        private final Rules rules;
        private final Sets sets;
        final int[] select = new int[MOST_PRODUCTIONS];
        /** For each nonterminal and token, how many productions are possible, and the lowest of them. */
        private final int[] possible = new int[CELLS];
        private final int[] lowest = new int[CELLS];
        int conflicts;

        Table(Rules rules, Sets sets) {
            this.rules = rules;
            this.sets = sets;
        }

        void compute() {
            for (int cell = 0; cell < CELLS; cell++) {
                possible[cell] = 0;
            }
            for (int p = rules.count - 1; p >= 0; p--) {
                select[p] = selectOf(rules.codes[p]);
                enter(p);
            }
            conflicts = 0;
            for (int cell = 0; cell < CELLS; cell++) {
                conflicts += pairsIn(cell);
            }
        }

        private int selectOf(int code) {
            int set = sets.firstFrom(code, 0);
            return sets.vanishes(code, 0) ? set | sets.follow[Rules.leftOf(code)] : set;
        }

        private void enter(int p) {
            int row = Rules.leftOf(rules.codes[p]) * TOKENS;
            for (int token = 0; token < TOKENS; token++) {
                if (bit(select[p], token) == 1) {
                    possible[row + token]++;
                    lowest[row + token] = p;
                }
            }
        }

        private int pairsIn(int cell) {
            return possible[cell] * (possible[cell] - 1) / 2;
        }

        int entry(int n, int token) {
            int cell = n * TOKENS + token;
            return possible[cell] > 0 ? lowest[cell] : NONE;
        }

        int entriesOf(int n) {
            int found = 0;
            for (int token = 0; token < TOKENS; token++) {
                if (possible[n * TOKENS + token] > 0) {
                    found++;
                }
            }
            return found;
        }

        static int partOf(int conflict, int what) {
            return (conflict >> (PART_BITS * (PARTS - 1 - what))) & ((1 << PART_BITS) - 1);
        }

        private static int conflictOf(int cell, int p, int q) {
            int place = ((cell / TOKENS) << PART_BITS) | (cell % TOKENS);
            return (((place << PART_BITS) | p) << PART_BITS) | q;
        }

        int conflictAt(int i) {
            int rest = i;
            for (int cell = 0; cell < CELLS; cell++) {
                int pairs = pairsIn(cell);
                if (rest < pairs) {
                    return conflictIn(cell, rest);
                }
                rest -= pairs;
            }
            return BAD;
        }

        private int conflictIn(int cell, int i) {
            int rest = i;
            for (int p = 0; p < rules.count; p++) {
                for (int q = p + 1; q < rules.count && isPossible(p, cell); q++) {
                    if (isPossible(q, cell)) {
                        if (rest == 0) {
                            return conflictOf(cell, p, q);
                        }
                        rest--;
                    }
                }
            }
            return BAD;
        }

        private boolean isPossible(int p, int cell) {
            return Rules.isOf(rules.codes[p], cell / TOKENS) && bit(select[p], cell % TOKENS) == 1;
        }

        int kindOf(int conflict) {
            int token = partOf(conflict, TOKEN);
            int kind = 2;
            for (int which = 0; which < 2; which++) {
                int p = partOf(conflict, LOWER + which);
                kind -= rules.has(p) ? bit(sets.firstFrom(rules.codes[p], 0), token) : 0;
            }
            return kind;
        }
    }

    // ---------------------------------------------------------------- words

    /**
     * Rows of words: strings of at most 40 terminals. A word has three bits a terminal, the last terminal
     * lowest, in two halves, so that words of one length compare as numbers. Its cost holds its length
     * above its weight, so that costs add up and compare first by the length.
     */
    private static final class Words {
        private static final int TERMINAL_BITS = 3;
        private static final int HALF_TERMINALS = 20;
        private static final int HALF_BITS = TERMINAL_BITS * HALF_TERMINALS;
        private static final long HALF_MASK = (1L << HALF_BITS) - 1;
        private static final int WEIGHT_BITS = 10;
        /** The cost of no word; all words cost less, and no sum with it does. */
        private static final int NO_WORD = (MOST_TERMINALS + 1) << WEIGHT_BITS;

        private final int[] costs;
        private final long[] highs;
        private final long[] lows;

        Words(int size) {
            costs = new int[Math.max(size, 0)];
            highs = new long[Math.max(size, 0)];
            lows = new long[Math.max(size, 0)];
            for (int w = 0; w < size; w++) {
                costs[w] = NO_WORD;
            }
        }

        boolean exists(int w) {
            return costs[w] < NO_WORD;
        }

        boolean isEmpty(int w) {
            return costs[w] == 0;
        }

        int lengthOf(int w) {
            return exists(w) ? costs[w] >> WEIGHT_BITS : NONE;
        }

        int terminalOf(int w, int k) {
            if (k < 0 || k >= lengthOf(w)) {
                return NONE;
            }
            int behind = lengthOf(w) - 1 - k;
            long half = behind < HALF_TERMINALS ? lows[w] : highs[w];
            int place = behind < HALF_TERMINALS ? behind : behind - HALF_TERMINALS;
            return (int) (half >> (TERMINAL_BITS * place)) & (TERMINALS - 1);
        }

        private void put(int w, int cost, long high, long low) {
            costs[w] = cost;
            highs[w] = high;
            lows[w] = low;
        }

        void putNone(int w) {
            put(w, NO_WORD, 0, 0);
        }

        void putEmpty(int w) {
            put(w, 0, 0, 0);
        }

        void putTerminal(int w, int terminal, int weight) {
            put(w, (1 << WEIGHT_BITS) + weight, 0, terminal);
        }

        void putCopy(int w, int other) {
            put(w, costs[other], highs[other], lows[other]);
        }

        private long joinedHigh(int head, int tail) {
            int shift = TERMINAL_BITS * (costs[tail] >> WEIGHT_BITS);
            if (shift >= HALF_BITS) {
                return (lows[head] << (shift - HALF_BITS)) | highs[tail];
            }
            return (highs[head] << shift) | (lows[head] >> (HALF_BITS - shift)) | highs[tail];
        }

        private long joinedLow(int head, int tail) {
            int shift = TERMINAL_BITS * (costs[tail] >> WEIGHT_BITS);
            if (shift >= HALF_BITS) {
                return lows[tail];
            }
            return ((lows[head] << shift) & HALF_MASK) | lows[tail];
        }

        void append(int w, int tail) {
            int cost = costs[w] + costs[tail];
            if (cost >= NO_WORD) {
                put(w, NO_WORD, 0, 0);
            } else {
                put(w, cost, joinedHigh(w, tail), joinedLow(w, tail));
            }
        }

        /** Replaces w by the other word if that is less; tells whether it was. */
        boolean lower(int w, int other) {
            if (!isLess(w, costs[other], highs[other], lows[other])) {
                return false;
            }
            put(w, costs[other], highs[other], lows[other]);
            return true;
        }

        /** Replaces w by the word joined of two if that is less. */
        void lowerToJoined(int w, int head, int tail) {
            int cost = costs[head] + costs[tail];
            if (cost >= NO_WORD || cost > costs[w]) {
                return;
            }
            long high = joinedHigh(head, tail);
            long low = joinedLow(head, tail);
            if (isLess(w, cost, high, low)) {
                put(w, cost, high, low);
            }
        }

        private boolean isLess(int w, int cost, long high, long low) {
            if (cost != costs[w]) {
                return cost < costs[w];
            }
            if (high != highs[w]) {
                return high < highs[w];
            }
            return low < lows[w];
        }
    }

    /**
     * Shortest strings and the examples of conflicts. The example is the least word of a grammar made of
     * this one, whose symbols come in kinds: PLAIN, any word; STARTING, a word that starts with the token;
     * and two kinds of words in which the production of the conflict is used somewhere: ENDED, nothing
     * stands behind that place yet, and MET, the token stands behind it. As a word of least length has
     * parts of least length, the least word of a sequence is joined of the least words of its parts.
     */
    private static final class Examples {
        private static final int PLAIN = 0;
        private static final int STARTING = SYMBOLS;
        private static final int ENDED = 2 * SYMBOLS;
        private static final int MET = 3 * SYMBOLS;
        private static final int HEAD = 4 * SYMBOLS;
        private static final int TRIAL = HEAD + 1;
        /** For each production and position, the PLAIN and the STARTING word of the symbols from there on. */
        private static final int PLAIN_TAILS = HEAD + 2;
        private static final int STARTING_TAILS = PLAIN_TAILS + MOST_PRODUCTIONS * (MOST_RIGHT + 1);
        private static final int SIZE = STARTING_TAILS + MOST_PRODUCTIONS * (MOST_RIGHT + 1);
        private static final int NO_KEY = -1;

        private final Rules rules;
        final Words words = new Words(SIZE);
        private boolean plainKnown;
        private int exampleKey = NO_KEY;

        Examples(Rules rules) {
            this.rules = rules;
        }

        void forget() {
            plainKnown = false;
            exampleKey = NO_KEY;
        }

        int shortestWord(int n) {
            findPlain();
            return PLAIN + FIRST_NONTERMINAL + n;
        }

        /** The example in which production p is used while the token is next. */
        int exampleWord(int p, int token) {
            int key = p * TOKENS + token;
            if (rules.has(p) && key != exampleKey) {
                findPlain();
                findStarting(token);
                findMarked(p);
                exampleKey = key;
            }
            return (token == END ? ENDED : MET) + FIRST_NONTERMINAL + START;
        }

        private static int plainTail(int p, int i) {
            return PLAIN_TAILS + p * (MOST_RIGHT + 1) + i;
        }

        private static int startingTail(int p, int i) {
            return STARTING_TAILS + p * (MOST_RIGHT + 1) + i;
        }

        private int leftSymbol(int p) {
            return FIRST_NONTERMINAL + Rules.leftOf(rules.codes[p]);
        }

        private void forgetKind(int kind) {
            for (int symbol = 0; symbol < SYMBOLS; symbol++) {
                words.putNone(kind + symbol);
            }
        }

        /** The last round changes no word, so it leaves the tails that belong to the words. */
        private void findPlain() {
            if (plainKnown) {
                return;
            }
            forgetKind(PLAIN);
            for (int terminal = 0; terminal < TERMINALS; terminal++) {
                words.putTerminal(PLAIN + terminal, terminal, 0);
            }
            boolean changed = true;
            for (int round = 0; round < ROUNDS && changed; round++) {
                changed = false;
                for (int p = 0; p < rules.count; p++) {
                    putPlainTails(p);
                    changed = words.lower(PLAIN + leftSymbol(p), plainTail(p, 0)) || changed;
                }
            }
            plainKnown = true;
        }

        private void putPlainTails(int p) {
            int code = rules.codes[p];
            int length = Rules.lengthOf(code);
            words.putEmpty(plainTail(p, length));
            for (int i = length - 1; i >= 0; i--) {
                words.putCopy(plainTail(p, i), PLAIN + Rules.symbolOf(code, i));
                words.append(plainTail(p, i), plainTail(p, i + 1));
            }
        }

        /** As findPlain; no word starts with the end marker. */
        private void findStarting(int token) {
            forgetKind(STARTING);
            if (token != END) {
                words.putTerminal(STARTING + token, token, 0);
            }
            boolean changed = true;
            for (int round = 0; round < ROUNDS && changed; round++) {
                changed = false;
                for (int p = 0; p < rules.count; p++) {
                    putStartingTails(p);
                    changed = words.lower(STARTING + leftSymbol(p), startingTail(p, 0)) || changed;
                }
            }
        }

        private void putStartingTails(int p) {
            int code = rules.codes[p];
            int length = Rules.lengthOf(code);
            words.putNone(startingTail(p, length));
            for (int i = length - 1; i >= 0; i--) {
                int symbol = Rules.symbolOf(code, i);
                words.putCopy(startingTail(p, i), STARTING + symbol);
                words.append(startingTail(p, i), plainTail(p, i + 1));
                if (words.isEmpty(PLAIN + symbol)) {
                    words.lower(startingTail(p, i), startingTail(p, i + 1));
                }
            }
        }

        private void findMarked(int marked) {
            forgetKind(ENDED);
            forgetKind(MET);
            if (words.isEmpty(plainTail(marked, 0))) {
                words.putEmpty(ENDED + leftSymbol(marked));
            }
            words.putCopy(MET + leftSymbol(marked), startingTail(marked, 0));
            boolean changed = true;
            for (int round = 0; round < ROUNDS && changed; round++) {
                changed = false;
                for (int p = 0; p < rules.count; p++) {
                    changed = lowerMarked(p) || changed;
                }
            }
        }

        private boolean lowerMarked(int p) {
            boolean changed = false;
            int code = rules.codes[p];
            words.putEmpty(HEAD);
            for (int i = 0; i < Rules.lengthOf(code); i++) {
                int symbol = Rules.symbolOf(code, i);
                if (words.exists(MET + symbol)) {
                    words.putCopy(TRIAL, HEAD);
                    words.append(TRIAL, MET + symbol);
                    words.append(TRIAL, plainTail(p, i + 1));
                    changed = words.lower(MET + leftSymbol(p), TRIAL) || changed;
                }
                if (words.exists(ENDED + symbol)) {
                    changed = lowerEnded(p, i) || changed;
                }
                words.append(HEAD, PLAIN + symbol);
            }
            return changed;
        }

        /** The production is used at the end of symbol i of p: what comes behind that decides. */
        private boolean lowerEnded(int p, int i) {
            boolean changed = false;
            words.putCopy(TRIAL, HEAD);
            words.append(TRIAL, ENDED + Rules.symbolOf(rules.codes[p], i));
            if (words.isEmpty(plainTail(p, i + 1))) {
                changed = words.lower(ENDED + leftSymbol(p), TRIAL);
            }
            words.append(TRIAL, startingTail(p, i + 1));
            return words.lower(MET + leftSymbol(p), TRIAL) || changed;
        }
    }

    /**
     * Least insertions. For each symbol and each stretch of the input, the least word of the symbol in
     * which the stretch can be found by leaving out terminals.
     */
    private static final class Repairer {
        private static final int PLACES = MOST_REPAIRED + 1;
        /** One word for each place up to which the symbols so far may cover the stretch. */
        private static final int COVER = PLACES * PLACES * SYMBOLS;
        private static final int BEST = COVER + PLACES;
        static final int KEPT = BEST + 1;
        private static final int SIZE = BEST + 2;

        private final Rules rules;
        private final Input input;
        final int[] weights = new int[TERMINALS];
        final Words words = new Words(SIZE);

        Repairer(Rules rules, Input input) {
            this.rules = rules;
            this.input = input;
            for (int terminal = 0; terminal < TERMINALS; terminal++) {
                weights[terminal] = 1;
            }
        }

        int findLeastInsertions() {
            int length = Math.min(input.length, MOST_REPAIRED);
            // a stretch is made of stretches that begin later, and of those that begin with it and end earlier
            for (int from = length; from >= 0; from--) {
                for (int to = from; to <= length; to++) {
                    findWords(from, to);
                }
            }
            int found = wordOf(0, length, FIRST_NONTERMINAL + START);
            if (!words.exists(found)) {
                return NONE;
            }
            words.putCopy(KEPT, found);
            return words.lengthOf(KEPT) - length;
        }

        private static int wordOf(int from, int to, int symbol) {
            return (from * PLACES + to) * SYMBOLS + symbol;
        }

        private void findWords(int from, int to) {
            putTerminals(from, to);
            for (int n = 0; n < NONTERMINALS; n++) {
                words.putNone(wordOf(from, to, FIRST_NONTERMINAL + n));
            }
            boolean changed = true;
            for (int round = 0; round < ROUNDS && changed; round++) {
                changed = false;
                for (int p = 0; p < rules.count; p++) {
                    changed = lowerBy(rules.codes[p], from, to) || changed;
                }
            }
        }

        private void putTerminals(int from, int to) {
            for (int terminal = 0; terminal < TERMINALS; terminal++) {
                int w = wordOf(from, to, terminal);
                if (to == from || to == from + 1 && input.tokenAt(from) == terminal) {
                    words.putTerminal(w, terminal, weights[terminal]);
                } else {
                    words.putNone(w);
                }
            }
        }

        private boolean lowerBy(int code, int from, int to) {
            for (int place = from; place <= to; place++) {
                words.putNone(COVER + place);
            }
            words.putEmpty(COVER + from);
            int last = Rules.lengthOf(code) - 1;
            for (int i = 0; i <= last; i++) {
                // before the first symbol nothing is covered, and after the last one only the whole counts
                extendCover(Rules.symbolOf(code, i), from, i == 0 ? from : to, i == last ? to : from, to);
            }
            return words.lower(wordOf(from, to, FIRST_NONTERMINAL + Rules.leftOf(code)), COVER + to);
        }

        /** From the end on, as each place needs the words that the places up to it had. */
        private void extendCover(int symbol, int from, int lastMiddle, int firstEnd, int to) {
            for (int end = to; end >= firstEnd; end--) {
                words.putNone(BEST);
                for (int middle = from; middle <= end && middle <= lastMiddle; middle++) {
                    words.lowerToJoined(BEST, COVER + middle, wordOf(middle, end, symbol));
                }
                words.putCopy(COVER + end, BEST);
            }
        }
    }

    // ---------------------------------------------------------------- parsing

    private static final class Input {
        private static final int MOST_DIGITS = 10;

        final int[] terminals = new int[MOST_TERMINALS];
        int length;

        /** How many terminals the digits stand for, 0 if they stand for none. */
        static int terminalsIn(int digits) {
            int rest = digits;
            int found = 0;
            while (rest > 0 && found < MOST_DIGITS) {
                int digit = rest % 10;
                if (digit < 1 || digit > TERMINALS) {
                    return 0;
                }
                rest /= 10;
                found++;
            }
            return found;
        }

        void append(int digits, int more) {
            int rest = digits;
            for (int k = length + more - 1; k >= length && k < MOST_TERMINALS; k--) {
                terminals[k] = rest % 10 - 1;
                rest /= 10;
            }
            length += more;
        }

        int tokenAt(int k) {
            return k >= 0 && k < length ? terminals[k] : END;
        }
    }

    /** The parser takes symbols off its stack in preorder: so the number of a step is that of its node. */
    private static final class Tree {
        final int[] symbols = new int[MOST_STEPS];
        final int[] parents = new int[MOST_STEPS];
        final int[] heights = new int[MOST_STEPS];
        int count;

        boolean has(int node) {
            return node >= 0 && node < count;
        }

        void note(int node, int symbol, int parent) {
            if (node >= 0 && node < MOST_STEPS) {
                symbols[node] = symbol;
                parents[node] = parent;
                heights[node] = 0;
            }
        }

        void finish(int nodes) {
            count = Math.min(nodes, MOST_STEPS);
            for (int node = count - 1; node > 0; node--) {
                int parent = parents[node];
                if (has(parent)) {
                    heights[parent] = Math.max(heights[parent], heights[node] + 1);
                }
            }
        }
    }

    private static final class Parser {
        private static final int MISSING_TERMINAL = 0;
        private static final int LEFT_NONTERMINAL = 1;
        private static final int SKIPPED_TOKEN = 2;
        private static final int INPUT_REMAINS = 3;
        private static final int ERROR_PARTS = 3;
        private static final int NO_NODE = -1;

        private final Rules rules;
        private final Sets sets;
        private final Table table;
        private final Input input;
        final int[] synchronizing = new int[NONTERMINALS];
        final int[] trace = new int[MOST_STEPS];
        int traceLength;
        final Tree tree = new Tree();
        private final int[] errorParts = new int[MOST_STEPS * ERROR_PARTS];
        private int errorCount;
        private final int[] stack = new int[MOST_STACK + MOST_RIGHT];
        /** For each symbol of the stack, the node whose production brought it. */
        private final int[] bringers = new int[MOST_STACK + MOST_RIGHT];
        private int depth;
        private int index;
        private int steps;

        Parser(Rules rules, Sets sets, Table table, Input input) {
            this.rules = rules;
            this.sets = sets;
            this.table = table;
            this.input = input;
        }

        int parseInput() {
            begin();
            for (int turn = 0; turn <= MOST_STEPS; turn++) {
                if (accepts()) {
                    tree.finish(steps);
                    return steps;
                }
                if (!canMove()) {
                    return FAILED;
                }
                if (steps >= MOST_STEPS) {
                    return LIMIT;
                }
                tree.note(steps, top(), bringer());
                move();
                if (depth > MOST_STACK) {
                    return LIMIT;
                }
            }
            return LIMIT;
        }

        int recoverInput() {
            begin();
            errorCount = 0;
            for (int turn = 0; turn <= MOST_STEPS; turn++) {
                if (accepts()) {
                    return errorCount;
                }
                if (steps >= MOST_STEPS) {
                    return LIMIT;
                }
                if (canMove()) {
                    move();
                } else {
                    passError();
                }
                if (depth > MOST_STACK) {
                    return LIMIT;
                }
            }
            return LIMIT;
        }

        /** Tells why the latest parse ended as it did. */
        void explain(Failure failure, int result) {
            failure.begin(Failure.NOT_PARSED, index);
            if (result == LIMIT) {
                failure.because(Failure.PARSER_LIMIT, steps);
            } else if (depth == 0) {
                failure.because(Failure.INPUT_REMAINS, input.length - index);
            } else if (top() < FIRST_NONTERMINAL) {
                failure.because(Failure.TERMINAL_EXPECTED, top());
            } else {
                explainNoEntry(failure, top() - FIRST_NONTERMINAL);
            }
        }

        private void explainNoEntry(Failure failure, int n) {
            failure.because(Failure.NO_ENTRY, n);
            if (rules.productionsOf(n) == 0) {
                failure.because(Failure.NO_PRODUCTIONS, n);
            } else {
                failure.because(Failure.OTHER_ENTRIES, table.entriesOf(n));
            }
        }

        private void begin() {
            traceLength = 0;
            tree.count = 0;
            depth = 0;
            index = 0;
            steps = 0;
            push(FIRST_NONTERMINAL + START, NO_NODE);
        }

        private void push(int symbol, int bringer) {
            if (depth < MOST_STACK + MOST_RIGHT) {
                stack[depth] = symbol;
                bringers[depth] = bringer;
                depth++;
            }
        }

        private int top() {
            return depth > 0 ? stack[depth - 1] : NO_SYMBOL;
        }

        private int bringer() {
            return depth > 0 ? bringers[depth - 1] : NO_NODE;
        }

        private int token() {
            return input.tokenAt(index);
        }

        private boolean accepts() {
            return depth == 0 && token() == END;
        }

        private boolean canMove() {
            int top = top();
            if (top >= FIRST_NONTERMINAL) {
                return table.entry(top - FIRST_NONTERMINAL, token()) >= 0;
            }
            return top >= 0 && top == token();
        }

        private void move() {
            int top = top();
            if (top >= FIRST_NONTERMINAL) {
                expand(table.entry(top - FIRST_NONTERMINAL, token()));
            } else {
                depth--;
                index++;
            }
            steps++;
        }

        private void expand(int p) {
            if (!rules.has(p) || traceLength >= MOST_STEPS) {
                return;
            }
            trace[traceLength] = p;
            traceLength++;
            depth--;
            int code = rules.codes[p];
            for (int i = Rules.lengthOf(code) - 1; i >= 0; i--) {
                push(Rules.symbolOf(code, i), steps);
            }
        }

        private void passError() {
            int top = top();
            if (top == NO_SYMBOL) {
                noteError(INPUT_REMAINS, top);
                index = input.length;
            } else if (top < FIRST_NONTERMINAL) {
                noteError(MISSING_TERMINAL, top);
                depth--;
            } else if (mayLeave(top - FIRST_NONTERMINAL)) {
                noteError(LEFT_NONTERMINAL, top);
                depth--;
            } else {
                noteError(SKIPPED_TOKEN, top);
                index++;
            }
            steps++;
        }

        private void noteError(int kind, int top) {
            if (errorCount < MOST_STEPS) {
                int at = errorCount * ERROR_PARTS;
                errorParts[at] = index;
                errorParts[at + 1] = kind;
                errorParts[at + 2] = top;
                errorCount++;
            }
        }

        int errorPart(int i, int what) {
            return i >= 0 && i < errorCount ? errorParts[i * ERROR_PARTS + what] : NONE;
        }

        private boolean mayLeave(int n) {
            int leaving = sets.follow[n] | synchronizing[n] | (1 << END);
            return bit(leaving, token()) == 1;
        }
    }

    // ---------------------------------------------------------------- the failure report

    private static final class Failure {
        static final int NOT_PARSED = 1;
        static final int TERMINAL_EXPECTED = 2;
        static final int NO_ENTRY = 3;
        static final int INPUT_REMAINS = 4;
        static final int NO_PRODUCTIONS = 5;
        static final int OTHER_ENTRIES = 6;
        static final int PARSER_LIMIT = 7;
        static final int CONFLICTS = 8;
        static final int CONFLICT_OF = 9;
        static final int CONFLICT_KIND = 10;
        static final int NOT_ADDED = 13;
        static final int EQUAL_PRODUCTION = 14;
        static final int NOT_REWRITTEN = 15;
        static final int NO_NONTERMINAL = 16;
        static final int TOO_MANY_PRODUCTIONS = 17;
        static final int RECURSIVE_ALONE = 18;
        static final int ALL_RECURSIVE = 19;
        static final int RIGHT_SIDE_FILLED = 20;
        private static final int MOST_LEVELS = 3;

        final int[] codes = new int[MOST_LEVELS];
        final int[] details = new int[MOST_LEVELS];
        int levels;

        boolean has(int level) {
            return level >= 0 && level < levels;
        }

        void begin(int code, int detail) {
            levels = 0;
            because(code, detail);
        }

        void because(int code, int detail) {
            if (levels < MOST_LEVELS) {
                codes[levels] = code;
                details[levels] = detail;
                levels++;
            }
        }
    }
}
