/**
 * The boundary cases of productions, sets and derivations, sentence by sentence: what the description says of
 * them, and promises 1 to 19.
 */
public final class BoundaryGrammarTest extends Calls {
    public static void main(String[] args) throws Exception {
        symbols();
        productions();
        edits();
        sets();
        derivations();
        errors();
        newObject();
        addProduction();
        addProductionRefused();
        removeProduction();
        clear();
        readingProductions();
        nullableFirstFollow();
        selectSet();
        changedNonterminals();
        productiveReachableLeftRecursive();
        shortest();
        tableEntry();
        Doc.end(1, 19);
    }

    private static void words(String words) throws Exception {
        Doc.sentence(Doc.DESCRIPTION, words);
    }

    private static void symbols() throws Exception {
        words("There are 8 terminals, numbered from 0, and 8 nonterminals, numbered from 0.");
        PredictiveGrammar x = new PredictiveGrammar();
        Due.due("terminal 0", add(x, 7, 0), 0);
        Due.due("terminal 7", add(x, 7, 7), 1);
        Due.due("terminal 8", add(x, 7, 8), BAD);
        Due.due("nonterminal 0", add(x, 7, 10), 2);
        Due.due("nonterminal 7", add(x, 7, 17), 3);
        Due.due("nonterminal 8", add(x, 7, 18), BAD);
        Due.due("nonterminal -1", add(x, 7, 9), BAD);
        Due.due("nonterminal 8 on the left", add(x, 8, 0), BAD);
        Due.due("firstSet(7)", x.firstSet(7), 129);
        Due.due("setWeight(7, 1)", x.setWeight(7, 1), 1);
        Due.due("setWeight(8, 1)", x.setWeight(8, 1), BAD);

        words("As a symbol, a terminal is written as its number and a nonterminal as its number plus 10.");
        x = new PredictiveGrammar();
        add(x, 0, 7, 17);
        add(x, 7, 0);
        x.appendInput(81);
        Due.due("rightSymbol(0, 0)", x.rightSymbol(0, 0), 7);
        Due.due("rightSymbol(0, 1)", x.rightSymbol(0, 1), 17);
        Due.due("leftSide(1), which is no symbol", x.leftSide(1), 7);
        Due.due("parse()", x.parse(), 4);
        Due.due("nodeSymbol(0)", x.nodeSymbol(0), 10);
        Due.due("nodeSymbol(1)", x.nodeSymbol(1), 7);
        Due.due("nodeSymbol(2)", x.nodeSymbol(2), 17);
        Due.due("nodeSymbol(3)", x.nodeSymbol(3), 0);

        words("Tokens are the terminals and the end marker, which is token 8.");
        x = new PredictiveGrammar();
        add(x, 0);
        add(x, 0, 7);
        Due.due("tableEntry(0, 8)", x.tableEntry(0, 8), 0);
        Due.due("tableEntry(0, 7)", x.tableEntry(0, 7), 1);
        Due.due("tableEntry(0, 9)", x.tableEntry(0, 9), BAD);
        Due.due("selectSet(0)", x.selectSet(0), 256);

        words("The start nonterminal is nonterminal 0.");
        x = new PredictiveGrammar();
        add(x, 1, 1);
        add(x, 0, 0);
        x.appendInput(1);
        Due.due("followSet(0)", x.followSet(0), 256);
        Due.due("followSet(1)", x.followSet(1), 0);
        Due.due("parse()", x.parse(), 2);
        Due.due("trace(0)", x.trace(0), 1);

        words("Sets of tokens are bit sets: bit t stands for token t.");
        for (int t = 0; t < 8; t++) {
            x = new PredictiveGrammar();
            add(x, 0, 10, t);
            add(x, 0, t);
            Due.due("firstSet(0) of t" + t, x.firstSet(0), 1 << t);
            Due.due("followSet(0) of t" + t, x.followSet(0), 256 | 1 << t);
            Due.due("selectSet(1) of t" + t, x.selectSet(1), 1 << t);
        }

        words("they are compared lexicographically by the numbers of the terminals, where a string comes after its own "
                + "proper prefixes.");
        x = new PredictiveGrammar();
        add(x, 0, 1, 0, 0);
        add(x, 0, 0, 7, 7);
        add(x, 1, 0, 0);
        add(x, 1, 0);
        add(x, 2, 5);
        add(x, 2);
        dueWord("the first terminal decides", k -> shortestAt(0, k, 1, 0, 0, 0, 7, 7), "077");
        dueWord("the last terminal decides", k -> shortestAt(0, k, 6, 6, 7, 6, 6, 3), "663");
        PredictiveGrammar y = x;
        dueWord("a proper prefix", k -> y.shortestTerminal(1, k), "0");
        Due.due("the empty string", y.shortestLength(2), 0);
    }

    /** A terminal of the shorter one of two strings of three terminals. */
    private static int shortestAt(int n, int k, int a, int b, int c, int d, int e, int f) {
        PredictiveGrammar x = new PredictiveGrammar();
        add(x, n, a, b, c);
        add(x, n, d, e, f);
        return x.shortestTerminal(n, k);
    }

    private static void productions() throws Exception {
        words("There are at most 24 productions, numbered from 0.");
        PredictiveGrammar x = fullGrammar(5);
        Due.due("productionCount()", x.productionCount(), 24);
        Due.due("a 25th", add(x, 5), FULL);
        Due.due("productionCount()", x.productionCount(), 24);
        dueProduction(x, 0, 5, 0, 0);
        dueProduction(x, 23, 5, 7, 2);
        Due.due("leftSide(24)", x.leftSide(24), BAD);

        words("A production has a left side, which is a nonterminal, and a right side of at most 5 symbols.");
        x = new PredictiveGrammar();
        add(x, 0, 0, 11, 2, 13, 4);
        add(x, 0);
        dueProduction(x, 0, 0, 0, 11, 2, 13, 4);
        dueProduction(x, 1, 0);

        words("No two productions are equal.");
        x = new PredictiveGrammar();
        Due.due("the first", add(x, 1, 2, 13), 0);
        Due.due("equal", add(x, 1, 2, 13), DUPLICATE);
        Due.due("another left side", add(x, 2, 2, 13), 1);
        Due.due("another last symbol", add(x, 1, 2, 12), 2);
        Due.due("another first symbol", add(x, 1, 3, 13), 3);
        Due.due("a symbol less", add(x, 1, 2), 4);
        Due.due("a symbol more", add(x, 1, 2, 13, 0), 5);
        Due.due("a terminal in its place", add(x, 1, 2, 3), 6);
        Due.due("removed", x.removeProduction(0), 6);
        Due.due("not equal to one that is removed", add(x, 1, 2, 13), 6);
        x.undo();
        Due.due("not equal to one that is reverted", add(x, 1, 2, 13), 6);

        words("When a production is removed, the numbers of the later ones decrease by 1.");
        x = new PredictiveGrammar();
        for (int i = 0; i < 5; i++) {
            add(x, i, i);
        }
        x.removeProduction(2);
        dueProduction(x, 1, 1, 1);
        dueProduction(x, 2, 3, 3);
        dueProduction(x, 3, 4, 4);
        x.removeProduction(0);
        dueProduction(x, 0, 1, 1);
        dueProduction(x, 2, 4, 4);
        x.removeProduction(2);
        dueProduction(x, 1, 3, 3);
        Due.due("leftSide(2)", x.leftSide(2), BAD);
        Due.due("tableEntry(3, 3)", x.tableEntry(3, 3), 1);
    }

    private static void edits() throws Exception {
        words("An edit is a call of addProduction, removeProduction, clear, leftFactor or removeLeftRecursion that "
                + "returns no error code.");
        PredictiveGrammar x = new PredictiveGrammar();
        add(x, 0, 10, 0);
        add(x, 0, 1);
        Due.due("undo() of addProduction", x.undo(), 1);
        add(x, 0, 1);
        add(x, 0, 1, 2);
        x.leftFactor(0);
        Due.due("undo() of leftFactor", x.undo(), 3);
        x.removeLeftRecursion(0);
        Due.due("undo() of removeLeftRecursion", x.undo(), 3);
        x.removeProduction(0);
        Due.due("undo() of removeProduction", x.undo(), 3);
        x.clear();
        Due.due("undo() of clear", x.undo(), 3);
        refuseAll(x);
        noEdits(x);
        Due.due("undo(), as these were no edits", x.undo(), 2);
        Due.due("productionCount()", x.productionCount(), 2);

        words("Only the latest 10 edits that were not reverted can be reverted.");
        for (int edits : new int[] {1, 9, 10, 11, 12, 23}) {
            x = new PredictiveGrammar();
            for (int i = 0; i < edits; i++) {
                add(x, 0, i % 8, i / 8);
            }
            int kept = Math.min(edits, 10);
            for (int left = kept - 1; left >= 0; left--) {
                Due.due("undo() after " + edits + " edits", x.undo(), left);
            }
            Due.due("one more undo() after " + edits + " edits", x.undo(), NONE);
            Due.due("productionCount() after " + edits + " edits", x.productionCount(), edits - kept);
        }
        x = new PredictiveGrammar();
        for (int i = 0; i < 10; i++) {
            add(x, 0, i % 8, i / 8);
        }
        for (int i = 0; i < 4; i++) {
            x.undo();
        }
        for (int i = 0; i < 5; i++) {
            add(x, 1, i);
        }
        Due.due("six edits, and five instead of the reverted ones", x.productionCount(), 11);
        for (int left = 9; left >= 0; left--) {
            Due.due("undo()", x.undo(), left);
        }
        Due.due("undo()", x.undo(), NONE);
        Due.due("productionCount()", x.productionCount(), 1);
    }

    /** Every kind of edit, refused with every code, on a grammar of 0 -> 0 t0 | t1 | t1 t2. */
    private static void refuseAll(PredictiveGrammar x) {
        Due.due("addProduction, BAD", add(x, 8, 0), BAD);
        Due.due("addProduction, DUPLICATE", add(x, 0, 1), DUPLICATE);
        Due.due("removeProduction, BAD", x.removeProduction(3), BAD);
        Due.due("leftFactor, BAD", x.leftFactor(8), BAD);
        Due.due("leftFactor, NONE", x.leftFactor(1), NONE);
        Due.due("removeLeftRecursion, BAD", x.removeLeftRecursion(8), BAD);
        Due.due("removeLeftRecursion, NONE", x.removeLeftRecursion(1), NONE);
    }

    /** Calls that change something, but no production. */
    private static void noEdits(PredictiveGrammar x) {
        x.setSynchronizing(0, 3);
        x.setWeight(0, 3);
        x.appendInput(2);
        x.parse();
        x.recover();
        x.repair();
        x.check();
        x.clearInput();
    }

    private static void sets() throws Exception {
        words("All productions count, whether their left sides are reachable or not.");
        PredictiveGrammar x = new PredictiveGrammar();
        add(x, 1, 12, 3);
        add(x, 2, 4);
        add(x, 2, 4, 4);
        Due.due("reachable(1)", x.reachable(1), 0);
        Due.due("followSet(2)", x.followSet(2), 8);
        Due.due("firstSet(1)", x.firstSet(1), 16);
        Due.due("conflictCount()", x.conflictCount(), 1);

        words("The nullable nonterminals are the fewest nonterminals such that the left side of each production whose "
                + "right side consists of nullable nonterminals only, or is empty, is nullable.");
        x = new PredictiveGrammar();
        add(x, 0);
        add(x, 1, 11);
        add(x, 2, 10, 10, 10, 10, 10);
        add(x, 3, 10, 10, 10, 10, 0);
        add(x, 4, 10, 10, 10, 10, 11);
        add(x, 5, 16);
        add(x, 6, 15);
        add(x, 7, 17);
        add(x, 7, 12);
        int[] nullable = {1, 0, 1, 0, 0, 0, 0, 1};
        for (int n = 0; n < 8; n++) {
            Due.due("nullable(" + n + ")", x.nullable(n), nullable[n]);
        }

        words("The first sets are the least sets such that, for each production and each of its symbols before which "
                + "there are only nullable nonterminals, the first set of the left side contains this symbol if it is a "
                + "terminal, and all of its first set if it is a nonterminal.");
        x = new PredictiveGrammar();
        add(x, 0);
        add(x, 1, 10, 10, 10, 10, 7);
        add(x, 2, 10, 10, 10, 10, 11);
        add(x, 3, 10, 10, 14, 10, 7);
        add(x, 4, 6);
        add(x, 5, 5, 7);
        add(x, 6, 17);
        add(x, 7, 16);
        int[] first = {0, 128, 128, 64, 64, 32, 0, 0};
        for (int n = 0; n < 8; n++) {
            Due.due("firstSet(" + n + ")", x.firstSet(n), first[n]);
        }
        x = new PredictiveGrammar();
        add(x, 1, 0);
        add(x, 0, 11);
        add(x, 1, 1);
        Due.due("firstSet(0), between two productions of 1", x.firstSet(0), 3);

        words("The follow sets are the least sets such that the follow set of nonterminal 0 contains the end marker, and "
                + "for each nonterminal in a right side, its follow set contains the first set of the sequence of symbols "
                + "after it, and all of the follow set of the left side if that sequence consists of nullable "
                + "nonterminals only or is empty.");
        x = new PredictiveGrammar();
        for (int n = 0; n < 8; n++) {
            Due.due("followSet(" + n + ") of nothing", x.followSet(n), n == 0 ? 256 : 0);
        }
        // 0 -> 1 2 2 2 3, where 2 vanishes and 3 does not; 3 -> t6 4 2 2 2; 5 -> 5 6
        add(x, 0, 11, 12, 12, 12, 13);
        add(x, 2);
        add(x, 2, 5);
        add(x, 3, 6, 14, 12, 12, 12);
        add(x, 5, 15, 16);
        int[] follow = {256, 32 | 64, 256 | 32 | 64, 256, 256 | 32, 0, 0, 0};
        for (int n = 0; n < 8; n++) {
            Due.due("followSet(" + n + ")", x.followSet(n), follow[n]);
        }
        x = new PredictiveGrammar();
        add(x, 0, 11);
        add(x, 1, 12);
        add(x, 0, 0, 11, 3);
        Due.due("followSet(2), between two places of 1", x.followSet(2), 256 | 8);

        words("The select set of a production is the first set of its right side, together with the follow set of its "
                + "left side if the right side consists of nullable nonterminals only or is empty.");
        x = new PredictiveGrammar();
        add(x, 0, 11, 7);
        add(x, 1);
        add(x, 1, 12, 12, 12, 12, 12);
        add(x, 1, 12, 12, 12, 12, 6);
        add(x, 2, 5);
        add(x, 2);
        Due.due("selectSet(0)", x.selectSet(0), 128 | 64 | 32);
        Due.due("selectSet(1), empty", x.selectSet(1), 128);
        Due.due("selectSet(2), it may vanish", x.selectSet(2), 128 | 32);
        Due.due("selectSet(3), its last symbol does not", x.selectSet(3), 64 | 32);
        Due.due("selectSet(4), a terminal", x.selectSet(4), 32);

        words("The table entry for a nonterminal and a token is the lowest production with this left side whose select "
                + "set contains the token.");
        x = new PredictiveGrammar();
        add(x, 1, 0);
        add(x, 0, 1);
        add(x, 0, 0, 1);
        add(x, 0, 0);
        Due.due("tableEntry(0, 0)", x.tableEntry(0, 0), 2);
        Due.due("tableEntry(0, 1)", x.tableEntry(0, 1), 1);
        Due.due("tableEntry(1, 0)", x.tableEntry(1, 0), 0);
        x.removeProduction(2);
        Due.due("tableEntry(0, 0)", x.tableEntry(0, 0), 2);
        x.removeProduction(2);
        Due.due("tableEntry(0, 0)", x.tableEntry(0, 0), NONE);
    }

    private static void derivations() throws Exception {
        words("A nonterminal is productive if it derives a string of any length.");
        PredictiveGrammar x = fortyGrammar(0);
        Due.due("productive(0) of 41 terminals", x.productive(0), 1);
        x = new PredictiveGrammar();
        add(x, 0);
        add(x, 1, 11);
        Due.due("productive(0) of no terminals", x.productive(0), 1);
        Due.due("productive(1) of itself", x.productive(1), 0);

        words("It is reachable if it is nonterminal 0 or occurs in the right side of a production whose left side is "
                + "reachable.");
        x = new PredictiveGrammar();
        Due.due("reachable(0) without a production", x.reachable(0), 1);
        add(x, 2, 13);
        add(x, 0, 0, 0, 0, 0, 11);
        Due.due("reachable(1), the last of five symbols", x.reachable(1), 1);
        Due.due("reachable(2)", x.reachable(2), 0);
        Due.due("reachable(3), from an unreachable one", x.reachable(3), 0);
        add(x, 1, 12, 14);
        Due.due("reachable(2)", x.reachable(2), 1);
        Due.due("reachable(3)", x.reachable(3), 1);
        Due.due("reachable(4), though it derives nothing", x.reachable(4), 1);

        words("It is left recursive if it derives, in one or more steps, a sequence of symbols that begins with the "
                + "nonterminal itself.");
        x = new PredictiveGrammar();
        Due.due("leftRecursive(0), not in no step", x.leftRecursive(0), 0);
        add(x, 0, 10);
        add(x, 1, 12, 12, 12, 12, 11);
        add(x, 2);
        add(x, 3, 14, 13);
        add(x, 4, 0);
        add(x, 5, 15, 14);
        add(x, 6, 17);
        add(x, 7, 12, 16, 17);
        int[] leftRecursive = {1, 1, 0, 0, 0, 1, 1, 1};
        for (int n = 0; n < 8; n++) {
            Due.due("leftRecursive(" + n + ")", x.leftRecursive(n), leftRecursive[n]);
        }
        for (boolean forward : new boolean[] {true, false}) {
            x.clear();
            for (int n = 0; n < 8; n++) {
                add(x, n, 10 + (forward ? n + 1 : n + 7) % 8);
            }
            for (int n = 0; n < 8; n++) {
                Due.due("leftRecursive(" + n + "), eight steps", x.leftRecursive(n), 1);
            }
            x.removeProduction(3);
            add(x, 7, 3, 10, 17);
            for (int n = 0; n < 8; n++) {
                Due.due("leftRecursive(" + n + ") of the open circle", x.leftRecursive(n), 0);
            }
        }

        words("The shortest string of a nonterminal is the lexicographically smallest one of the strings with the fewest "
                + "terminals that it derives;");
        PredictiveGrammar y = new PredictiveGrammar();
        add(y, 0, 0, 0, 0);
        add(y, 0, 11, 11);
        add(y, 1, 7);
        add(y, 1, 6);
        dueWord("the fewest terminals", k -> y.shortestTerminal(0, k), "66");

        words("it does not exist if it would have more than 40 terminals.");
        PredictiveGrammar forty = fortyGrammar();
        Due.due("shortestLength(0) of 40", forty.shortestLength(0), 40);
        dueWord("40 terminals", k -> forty.shortestTerminal(0, k), "01230123".repeat(4) + "45677654");
        PredictiveGrammar more = fortyGrammar(3);
        Due.due("shortestLength(0) of 41", more.shortestLength(0), NONE);
        dueWord("41 terminals", k -> more.shortestTerminal(0, k), "");
        add(more, 3, 5);
        Due.due("shortestLength(0) of 17", more.shortestLength(0), 17);
    }

    private static void errors() throws Exception {
        words("If several error codes are possible, the one that is mentioned first is returned.");
        PredictiveGrammar x = fullGrammar(0);
        Due.due("addProduction, BAD before FULL", x.addProduction(0, 0, -1, 1, -1, -1), BAD);
        Due.due("addProduction, DUPLICATE before FULL", add(x, 0, 0, 0), DUPLICATE);
        Due.due("shortestTerminal, BAD before NONE", x.shortestTerminal(8, 99), BAD);
        Due.due("tableEntry, BAD before NONE", x.tableEntry(8, 8), BAD);
        Due.due("exampleTerminal, BAD before NONE", x.exampleTerminal(-1, 0, 99), BAD);
        Due.due("exampleTerminal, BAD before NONE", x.exampleTerminal(0, 2, 99), BAD);
        Due.due("leftFactor, NONE before FULL", x.leftFactor(1), NONE);
        Due.due("removeLeftRecursion, NONE before FULL", x.removeLeftRecursion(0), NONE);
        Due.due("error, BAD before NONE", x.error(99, 3), BAD);
        for (int i = 0; i < 40; i++) {
            x.appendInput(1);
        }
        Due.due("appendInput, BAD before FULL", x.appendInput(19), BAD);
        x.clear();
        Due.due("repair, LIMIT before NONE", x.repair(), LIMIT);
        add(x, 0, 10);
        while (x.productionCount() < 24) {
            add(x, 7, x.productionCount() / 8, x.productionCount() % 8);
        }
        Due.due("removeLeftRecursion, FAILED before FULL", x.removeLeftRecursion(0), FAILED);

        words("A call that returns an error code leaves everything but the failure report unchanged, unless its "
                + "description says otherwise.");
        refusedEdits();
        refusedOthers();
    }

    private static void dueSame(String call, PredictiveGrammar x, int got, int want, String before) {
        Due.due(call, got, want);
        Due.due("what is there after " + call, state(x).equals(before));
    }

    private static void refusedEdits() {
        PredictiveGrammar x = new PredictiveGrammar();
        add(x, 1, 11);
        add(x, 2, 12, 1);
        add(x, 3, 13, 1);
        add(x, 3, 1, 1, 1, 1, 1);
        String before = state(x);
        dueSame("addProduction, BAD", x, add(x, 0, 8), BAD, before);
        dueSame("addProduction, DUPLICATE", x, add(x, 1, 11), DUPLICATE, before);
        dueSame("removeProduction, BAD", x, x.removeProduction(4), BAD, before);
        dueSame("leftFactor, BAD", x, x.leftFactor(8), BAD, before);
        dueSame("leftFactor, NONE", x, x.leftFactor(3), NONE, before);
        dueSame("removeLeftRecursion, BAD", x, x.removeLeftRecursion(8), BAD, before);
        dueSame("removeLeftRecursion, NONE", x, x.removeLeftRecursion(0), NONE, before);
        for (int n = 1; n <= 3; n++) {
            dueSame("removeLeftRecursion, FAILED of " + n, x, x.removeLeftRecursion(n), FAILED, before);
        }
        Due.due("undo() of the latest edit", x.undo(), 3);
        Due.due("productionCount()", x.productionCount(), 3);
        x = fullGrammar(0);
        before = state(x);
        dueSame("addProduction, FULL", x, add(x, 0), FULL, before);
        dueSame("leftFactor, FULL", x, x.leftFactor(0), FULL, before);
        Due.due("undo() of the latest of 24 edits", x.undo(), 9);
        Due.due("productionCount()", x.productionCount(), 23);
        add(x, 0, 10, 1);
        before = state(x);
        dueSame("removeLeftRecursion, FULL", x, x.removeLeftRecursion(0), FULL, before);
        x = new PredictiveGrammar();
        x.clear();
        x.undo();
        add(x, 0, 1);
        x.undo();
        before = state(x);
        dueSame("undo, NONE", x, x.undo(), NONE, before);
    }

    private static void refusedOthers() {
        PredictiveGrammar x = new PredictiveGrammar();
        add(x, 0, 0, 11);
        add(x, 1, 1);
        add(x, 1, 1, 1);
        x.appendInput(12);
        x.repair();
        x.appendInput(88);
        x.recover();
        x.clearInput();
        x.appendInput(12);
        x.parse();
        x.appendInput(1);
        String before = state(x);
        dueSame("check, FAILED", x, x.check(), FAILED, before);
        dueSame("repair, NONE", x, x.repair(), NONE, before);
        dueSame("appendInput, BAD", x, x.appendInput(90), BAD, before);
        dueSame("setSynchronizing, BAD", x, x.setSynchronizing(1, 512), BAD, before);
        dueSame("setWeight, BAD", x, x.setWeight(1, 10), BAD, before);
        Due.due("the set that was there", x.setSynchronizing(1, 0), 0);
        Due.due("the weight that was there", x.setWeight(1, 1), 1);
        for (int i = 0; i < 36; i++) {
            x.appendInput(1);
        }
        before = state(x);
        dueSame("appendInput, FULL", x, x.appendInput(12), FULL, before);
        dueSame("repair, LIMIT", x, x.repair(), LIMIT, before);
    }

    private static void newObject() throws Exception {
        Doc.sentence(1, "Creates a workbench with an empty grammar and no input.");
        PredictiveGrammar x = new PredictiveGrammar();
        Due.due("productionCount()", x.productionCount(), 0);
        Due.due("leftSide(0)", x.leftSide(0), BAD);
        Due.due("inputTerminal(0)", x.inputTerminal(0), NONE);
        Due.due("clearInput()", x.clearInput(), 0);
        Due.due("check()", x.check(), 0);
        Due.due("undo()", x.undo(), NONE);
        Due.due("nothing else", state(x).equals(state(new PredictiveGrammar())));
        Due.due("a parse", x.parse(), FAILED);
    }

    private static void addProduction() throws Exception {
        Doc.sentence(2, "Adds a production with the next number.");
        PredictiveGrammar x = new PredictiveGrammar();
        Due.due("the first one", add(x, 0, 1), 0);
        Due.due("the next one", add(x, 0, 2), 1);
        x.removeProduction(0);
        Due.due("after a removal", add(x, 0, 3), 1);
        x.clear();
        Due.due("after clear", add(x, 0, 3), 0);
        Due.due("the last one", fullGrammar(1).productionCount(), 24);

        Doc.sentence(2, "`left`: the left side, a nonterminal from 0 to 7");
        x = new PredictiveGrammar();
        Due.due("left side 0", add(x, 0, 1), 0);
        Due.due("left side 7", add(x, 7, 1), 1);
        for (int wrong : WRONG) {
            Due.due("left side " + wrong, add(x, wrong, 1), BAD);
        }

        Doc.sentence(2, "`first`: the first symbol of the right side, 0 to 7 or 10 to 17, or -1 if the right side is empty");
        x = new PredictiveGrammar();
        int[] symbols = {0, 7, 10, 17};
        for (int i = 0; i < symbols.length; i++) {
            Due.due("first symbol " + symbols[i], add(x, 0, symbols[i]), i);
        }
        Due.due("none", add(x, 0), 4);
        Due.due("rightLength(4)", x.rightLength(4), 0);

        String[] places = {"second", "third", "fourth", "fifth"};
        for (int place = 0; place < 4; place++) {
            Doc.sentence(2, "`" + places[place] + "`: the " + places[place] + " symbol, or -1 if there is none");
            x = new PredictiveGrammar();
            int length = place + 2;
            for (int i = 0; i < symbols.length; i++) {
                int[] right = new int[length];
                right[length - 1] = symbols[i];
                Due.due("symbol " + symbols[i], add(x, 0, right), i);
                dueProduction(x, i, 0, right);
            }
            Due.due("none", add(x, 0, new int[length - 1]), 4);
            dueProduction(x, 4, 0, new int[length - 1]);
        }
    }

    private static void addProductionRefused() throws Exception {
        Doc.sentence(2, "BAD if an argument is not as described or a symbol follows -1;");
        PredictiveGrammar x = new PredictiveGrammar();
        for (int wrong : new int[] {8, 9, 18, -2, Integer.MIN_VALUE, Integer.MAX_VALUE}) {
            for (int place = 0; place < 5; place++) {
                int[] right = new int[place + 1];
                right[place] = wrong;
                Due.due("symbol " + wrong + " at " + place, add(x, 0, right), BAD);
            }
        }
        for (int end = 0; end < 4; end++) {
            for (int behind = end + 1; behind < 5; behind++) {
                int[] right = {0, 0, 0, 0, 0};
                java.util.Arrays.fill(right, end, 5, -1);
                right[behind] = 0;
                Due.due("terminal 0 at " + behind + " behind -1 at " + end, add(x, 0, right), BAD);
                right[behind] = 17;
                Due.due("nonterminal 7 at " + behind + " behind -1 at " + end, add(x, 0, right), BAD);
            }
        }
        Due.due("productionCount()", x.productionCount(), 0);
        dueReport(x);

        Doc.sentence(2, "DUPLICATE if there is an equal production, also if there are 24, which leaves a failure report;");
        Due.due("of one", add(x, 3, 1), 0);
        Due.due("the same", add(x, 3, 1), DUPLICATE);
        dueReport(x, 13, 3, 14, 0);
        x = fullGrammar(6);
        Due.due("the last of 24", add(x, 6, 7, 2), DUPLICATE);
        dueReport(x, 13, 6, 14, 23);
        Due.due("the first of 24", add(x, 6, 0, 0), DUPLICATE);
        dueReport(x, 13, 6, 14, 0);

        Doc.sentence(2, "FULL if there are 24 productions.");
        x = fullGrammar(6);
        Due.due("a 25th", add(x, 6, 0), FULL);
        Due.due("a 25th of another", add(x, 5, 0, 0), FULL);
        dueReport(x);
        x.removeProduction(0);
        Due.due("the 24th", add(x, 6, 0), 23);
        Due.due("a 25th", add(x, 6), FULL);
    }

    private static void removeProduction() throws Exception {
        Doc.sentence(3, "Returns the number of productions afterwards; BAD if there is no such production.");
        PredictiveGrammar x = new PredictiveGrammar();
        Due.due("of none", x.removeProduction(0), BAD);
        add(x, 0, 0);
        add(x, 0, 1);
        Due.due("removeProduction(-1)", x.removeProduction(-1), BAD);
        Due.due("removeProduction(2)", x.removeProduction(2), BAD);
        Due.due("removeProduction(Integer.MIN_VALUE)", x.removeProduction(Integer.MIN_VALUE), BAD);
        Due.due("removeProduction(Integer.MAX_VALUE)", x.removeProduction(Integer.MAX_VALUE), BAD);
        Due.due("the last", x.removeProduction(1), 1);
        Due.due("it is gone", x.removeProduction(1), BAD);
        Due.due("the only one", x.removeProduction(0), 0);
        Due.due("it is gone", x.removeProduction(0), BAD);
        x = fullGrammar(0);
        Due.due("removeProduction(24)", x.removeProduction(24), BAD);
        Due.due("removeProduction(23)", x.removeProduction(23), 23);
        Due.due("removeProduction(0)", x.removeProduction(0), 22);
        dueProduction(x, 21, 0, 6, 2);
    }

    private static void clear() throws Exception {
        Doc.sentence(4, "Removes all productions. This is an edit also if there are none.");
        PredictiveGrammar x = fullGrammar(0);
        x.clear();
        Due.due("productionCount()", x.productionCount(), 0);
        Due.due("leftSide(0)", x.leftSide(0), BAD);
        x = new PredictiveGrammar();
        x.clear();
        x.clear();
        Due.due("undo() of the second", x.undo(), 1);
        Due.due("undo() of the first", x.undo(), 0);
        Due.due("undo()", x.undo(), NONE);
        add(x, 0, 1);
        x.clear();
        x.clear();
        Due.due("changedNonterminals() by the clear of none", x.changedNonterminals(), 0);

        Doc.sentence(4, "Returns the number of productions removed.");
        x = new PredictiveGrammar();
        Due.due("of none", x.clear(), 0);
        add(x, 0, 1);
        Due.due("of one", x.clear(), 1);
        Due.due("of none", x.clear(), 0);
        Due.due("of 24", fullGrammar(0).clear(), 24);
    }

    private static void readingProductions() throws Exception {
        Doc.sentence(5, "Returns the number of productions.");
        PredictiveGrammar none = new PredictiveGrammar();
        PredictiveGrammar full = fullGrammar(4);
        Due.due("of none", none.productionCount(), 0);
        Due.due("of 24", full.productionCount(), 24);

        int[] wrong = {-1, 24, Integer.MIN_VALUE, Integer.MAX_VALUE};
        Doc.sentence(6, "Returns the nonterminal; BAD if there is no such production.");
        Due.due("of none", none.leftSide(0), BAD);
        Due.due("leftSide(0)", full.leftSide(0), 4);
        Due.due("leftSide(23)", full.leftSide(23), 4);
        for (int p : wrong) {
            Due.due("leftSide(" + p + ")", full.leftSide(p), BAD);
        }

        Doc.sentence(7, "Returns the number of symbols; BAD if there is no such production.");
        Due.due("of none", none.rightLength(0), BAD);
        Due.due("rightLength(23)", full.rightLength(23), 2);
        for (int p : wrong) {
            Due.due("rightLength(" + p + ")", full.rightLength(p), BAD);
        }
        PredictiveGrammar x = new PredictiveGrammar();
        add(x, 0);
        add(x, 0, 17, 17, 17, 17, 17);
        Due.due("rightLength(0)", x.rightLength(0), 0);
        Due.due("rightLength(1)", x.rightLength(1), 5);
        x.removeProduction(1);
        Due.due("rightLength(1) afterwards", x.rightLength(1), BAD);

        Doc.sentence(8, "Returns the symbol; BAD if there is no such production or position.");
        Due.due("of none", none.rightSymbol(0, 0), BAD);
        Due.due("rightSymbol(23, 0)", full.rightSymbol(23, 0), 7);
        for (int p : wrong) {
            Due.due("rightSymbol(" + p + ", 0)", full.rightSymbol(p, 0), BAD);
        }
        for (int i : new int[] {-1, 2, Integer.MIN_VALUE, Integer.MAX_VALUE}) {
            Due.due("rightSymbol(23, " + i + ")", full.rightSymbol(23, i), BAD);
        }
        Due.due("of an empty right side", x.rightSymbol(0, 0), BAD);
        x.undo();
        Due.due("rightSymbol(1, 4)", x.rightSymbol(1, 4), 17);
        Due.due("rightSymbol(1, 5)", x.rightSymbol(1, 5), BAD);
    }

    private static void nullableFirstFollow() throws Exception {
        PredictiveGrammar x = new PredictiveGrammar();
        for (int n = 0; n < 8; n += 7) {
            add(x, n);
            add(x, n, n, 10 + n);
        }
        Doc.sentence(9, "Returns 1 if it is, 0 if not; BAD if n is out of range.");
        Due.due("nullable(0)", x.nullable(0), 1);
        Due.due("nullable(7)", x.nullable(7), 1);
        Due.due("nullable(6)", x.nullable(6), 0);
        for (int wrong : WRONG) {
            Due.due("nullable(" + wrong + ")", x.nullable(wrong), BAD);
        }
        Doc.sentence(10, "Returns the set; BAD if n is out of range.");
        Due.due("firstSet(0)", x.firstSet(0), 1);
        Due.due("firstSet(7)", x.firstSet(7), 128);
        Due.due("firstSet(6)", x.firstSet(6), 0);
        for (int wrong : WRONG) {
            Due.due("firstSet(" + wrong + ")", x.firstSet(wrong), BAD);
        }
        Doc.sentence(11, "Returns the set; BAD if n is out of range.");
        add(x, 0, 17, 7);
        Due.due("followSet(0)", x.followSet(0), 256);
        Due.due("followSet(7)", x.followSet(7), 128);
        Due.due("followSet(6)", x.followSet(6), 0);
        for (int wrong : WRONG) {
            Due.due("followSet(" + wrong + ")", x.followSet(wrong), BAD);
        }
    }

    private static void selectSet() throws Exception {
        Doc.sentence(12, "Returns the set; BAD if there is no such production.");
        Due.due("of none", new PredictiveGrammar().selectSet(0), BAD);
        PredictiveGrammar x = fullGrammar(3);
        Due.due("selectSet(0)", x.selectSet(0), 1);
        Due.due("selectSet(23)", x.selectSet(23), 128);
        for (int wrong : new int[] {-1, 24, Integer.MIN_VALUE, Integer.MAX_VALUE}) {
            Due.due("selectSet(" + wrong + ")", x.selectSet(wrong), BAD);
        }
        x.removeProduction(4);
        Due.due("selectSet(23) of 23", x.selectSet(23), BAD);
        // nothing selects a production that derives nothing; nothing follows an empty one of no use
        x.clear();
        add(x, 0, 10);
        add(x, 1);
        Due.due("selectSet(0)", x.selectSet(0), 0);
        Due.due("selectSet(1)", x.selectSet(1), 0);
    }

    private static void changedNonterminals() throws Exception {
        Doc.sentence(13, "Returns how many nonterminals differ in nullability, first set or follow set from what they were "
                + "before the latest edit or the latest call of undo that returned no error code, whichever was later.");
        PredictiveGrammar x = new PredictiveGrammar();
        add(x, 5);
        Due.due("nullability alone", x.changedNonterminals(), 1);
        add(x, 5, 0);
        Due.due("the first set alone", x.changedNonterminals(), 1);
        add(x, 0, 17);
        Due.due("the follow set alone", x.changedNonterminals(), 1);
        add(x, 5, 0, 0);
        Due.due("an edit that changes nothing", x.changedNonterminals(), 0);
        x.undo();
        Due.due("the undo of this", x.changedNonterminals(), 0);
        add(x, 5);
        Due.due("a refused edit, after an undo", x.changedNonterminals(), 0);
        x.undo();
        Due.due("a later undo", x.changedNonterminals(), 1);
        add(x, 8, 1);
        x.check();
        x.parse();
        Due.due("calls that are neither", x.changedNonterminals(), 1);
        x.clear();
        Due.due("a later edit", x.changedNonterminals(), 1);
        for (int i = 0; i < 3; i++) {
            x.undo();
        }
        Due.due("undo()", x.undo(), NONE);
        Due.due("an undo that returned an error code", x.changedNonterminals(), 1);
        x = new PredictiveGrammar();
        for (int n = 0; n < 7; n++) {
            add(x, n, 11 + n);
        }
        add(x, 7, 3);
        Due.due("all eight", x.changedNonterminals(), 8);
        x.undo();
        Due.due("all eight", x.changedNonterminals(), 8);

        Doc.sentence(13, "Returns the number of nonterminals, 0 if there was no edit.");
        x = new PredictiveGrammar();
        Due.due("a new object", x.changedNonterminals(), 0);
        x.undo();
        add(x, 0, 8);
        x.removeProduction(0);
        x.appendInput(1);
        x.parse();
        Due.due("no edit yet", x.changedNonterminals(), 0);
    }

    private static void productiveReachableLeftRecursive() throws Exception {
        PredictiveGrammar x = new PredictiveGrammar();
        add(x, 0, 10, 17);
        add(x, 7, 17, 7);
        add(x, 7);
        Doc.sentence(14, "Returns 1 if it is, 0 if not; BAD if n is out of range.");
        Due.due("productive(0)", x.productive(0), 0);
        Due.due("productive(7)", x.productive(7), 1);
        for (int wrong : WRONG) {
            Due.due("productive(" + wrong + ")", x.productive(wrong), BAD);
        }
        Doc.sentence(15, "Returns 1 if it is, 0 if not; BAD if n is out of range.");
        Due.due("reachable(0)", x.reachable(0), 1);
        Due.due("reachable(6)", x.reachable(6), 0);
        Due.due("reachable(7)", x.reachable(7), 1);
        for (int wrong : WRONG) {
            Due.due("reachable(" + wrong + ")", x.reachable(wrong), BAD);
        }
        PredictiveGrammar full = fullGrammar(7);
        Due.due("reachable(7) of 24 productions", full.reachable(7), 0);
        full.removeProduction(0);
        add(full, 0, 17);
        Due.due("reachable(7) by the last of 24 productions", full.reachable(7), 1);
        Doc.sentence(16, "Returns 1 if it is, 0 if not; BAD if n is out of range.");
        Due.due("leftRecursive(7) of 24 productions", full.leftRecursive(7), 0);
        full.removeProduction(0);
        add(full, 7, 17);
        Due.due("leftRecursive(7) by the last of 24 productions", full.leftRecursive(7), 1);
        Due.due("leftRecursive(0)", x.leftRecursive(0), 1);
        Due.due("leftRecursive(6)", x.leftRecursive(6), 0);
        Due.due("leftRecursive(7)", x.leftRecursive(7), 1);
        for (int wrong : WRONG) {
            Due.due("leftRecursive(" + wrong + ")", x.leftRecursive(wrong), BAD);
        }
    }

    private static void shortest() throws Exception {
        PredictiveGrammar x = new PredictiveGrammar();
        add(x, 0);
        add(x, 7, 7, 6);
        add(x, 6, 16);
        Doc.sentence(17, "Returns the number of terminals; BAD if n is out of range; NONE if the string does not exist.");
        Due.due("shortestLength(0), the empty string", x.shortestLength(0), 0);
        Due.due("shortestLength(7)", x.shortestLength(7), 2);
        Due.due("shortestLength(6), derives nothing", x.shortestLength(6), NONE);
        Due.due("shortestLength(5), no productions", x.shortestLength(5), NONE);
        Due.due("shortestLength(0) of 40", fortyGrammar().shortestLength(0), 40);
        Due.due("shortestLength(0) of 41", fortyGrammar(0).shortestLength(0), NONE);
        for (int wrong : WRONG) {
            Due.due("shortestLength(" + wrong + ")", x.shortestLength(wrong), BAD);
        }
        Doc.sentence(18, "Returns the terminal; BAD if n is out of range; NONE if the string does not exist or has no such "
                + "position.");
        dueWord("the empty string", k -> x.shortestTerminal(0, k), "");
        dueWord("of 7", k -> x.shortestTerminal(7, k), "76");
        dueWord("no string", k -> x.shortestTerminal(6, k), "");
        dueWord("no productions", k -> x.shortestTerminal(5, k), "");
        Due.due("the 40th", fortyGrammar().shortestTerminal(0, 39), 4);
        for (int wrong : WRONG) {
            Due.due("shortestTerminal(" + wrong + ", 0)", x.shortestTerminal(wrong, 0), BAD);
            Due.due("shortestTerminal(" + wrong + ", -1)", x.shortestTerminal(wrong, -1), BAD);
        }
    }

    private static void tableEntry() throws Exception {
        Doc.sentence(19, "Returns the number of the production; BAD if an argument is out of range; NONE if there is no "
                + "entry.");
        PredictiveGrammar x = new PredictiveGrammar();
        Due.due("of none", x.tableEntry(0, 8), NONE);
        add(x, 7, 0);
        add(x, 0);
        add(x, 7, 7);
        Due.due("tableEntry(7, 0)", x.tableEntry(7, 0), 0);
        Due.due("tableEntry(0, 8)", x.tableEntry(0, 8), 1);
        Due.due("tableEntry(7, 7)", x.tableEntry(7, 7), 2);
        Due.due("tableEntry(7, 8)", x.tableEntry(7, 8), NONE);
        Due.due("tableEntry(0, 0)", x.tableEntry(0, 0), NONE);
        for (int wrong : WRONG) {
            Due.due("tableEntry(" + wrong + ", 0)", x.tableEntry(wrong, 0), BAD);
        }
        for (int wrong : new int[] {-1, 9, 10, Integer.MIN_VALUE, Integer.MAX_VALUE}) {
            Due.due("tableEntry(0, " + wrong + ")", x.tableEntry(0, wrong), BAD);
        }

        Doc.sentence(19, "`token`: the token, 0 to 8");
        for (int token = 0; token <= 8; token++) {
            x.clear();
            add(x, 0, 10, 11);
            add(x, 0);
            add(x, 1, token % 8);
            Due.due("tableEntry(0, " + token + ")", x.tableEntry(0, token), token == 8 ? 1 : 0);
        }
    }
}
