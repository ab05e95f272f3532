/** Each promise of the document by its number: ordinary inputs, the edges that it names, and wrong inputs. */
public final class PromiseTest extends Calls {
    public static void main(String[] args) {
        newObject();
        addProduction();
        removeProductionAndClear();
        readingProductions();
        nullableFirstFollow();
        selectAndTable();
        changedNonterminals();
        productiveReachableLeftRecursive();
        shortest();
        conflicts();
        examples();
        exampleLimits();
        check();
        leftFactor();
        leftFactorFull();
        removeLeftRecursion();
        removeLeftRecursionFails();
        undo();
        setSynchronizing();
        input();
        parse();
        parseFails();
        parseLimits();
        recover();
        recoverLimit();
        traceAndTree();
        weights();
        repair();
        failureReport();
        Due.end();
    }

    private static void newObject() {
        Due.part("promise 1");
        PredictiveGrammar x = new PredictiveGrammar();
        Due.due("productionCount()", x.productionCount(), 0);
        Due.due("inputTerminal(0)", x.inputTerminal(0), NONE);
        Due.due("clearInput()", x.clearInput(), 0);
        Due.due("undo()", x.undo(), NONE);
        Due.due("conflictCount()", x.conflictCount(), 0);
        Due.due("changedNonterminals()", x.changedNonterminals(), 0);
        Due.due("traceLength()", x.traceLength(), 0);
        Due.due("trace(0)", x.trace(0), NONE);
        Due.due("nodeCount()", x.nodeCount(), 0);
        Due.due("nodeSymbol(0)", x.nodeSymbol(0), NONE);
        Due.due("error(0, 0)", x.error(0, 0), NONE);
        Due.due("repairedTerminal(0)", x.repairedTerminal(0), NONE);
        Due.due("followSet(0)", x.followSet(0), 256);
        Due.due("followSet(1)", x.followSet(1), 0);
        Due.due("tableEntry(0, 0)", x.tableEntry(0, 0), NONE);
        Due.due("shortestLength(0)", x.shortestLength(0), NONE);
        Due.due("shortestTerminal(0, 0)", x.shortestTerminal(0, 0), NONE);
        Due.due("repair()", x.repair(), NONE);
        dueReport(x);
        PredictiveGrammar y = new PredictiveGrammar();
        add(x, 0, 1);
        Due.due("another object stays as it is", y.productionCount(), 0);
    }

    private static void addProduction() {
        Due.part("promise 2");
        PredictiveGrammar x = new PredictiveGrammar();
        for (int wrong : WRONG) {
            Due.due("left side " + wrong, x.addProduction(wrong, 0, -1, -1, -1, -1), BAD);
        }
        for (int wrong : new int[] {8, 9, 18, -2, Integer.MIN_VALUE, Integer.MAX_VALUE}) {
            Due.due("first " + wrong, x.addProduction(0, wrong, -1, -1, -1, -1), BAD);
            Due.due("second " + wrong, x.addProduction(0, 0, wrong, -1, -1, -1), BAD);
            Due.due("third " + wrong, x.addProduction(0, 0, 0, wrong, -1, -1), BAD);
            Due.due("fourth " + wrong, x.addProduction(0, 0, 0, 0, wrong, -1), BAD);
            Due.due("fifth " + wrong, x.addProduction(0, 0, 0, 0, 0, wrong), BAD);
            Due.due("behind the end " + wrong, x.addProduction(0, -1, -1, -1, -1, wrong), BAD);
        }
        Due.due("second behind -1", x.addProduction(0, -1, 0, -1, -1, -1), BAD);
        Due.due("third behind -1", x.addProduction(0, 0, -1, 0, -1, -1), BAD);
        Due.due("fourth behind -1", x.addProduction(0, 0, 0, -1, 0, -1), BAD);
        Due.due("fifth behind -1", x.addProduction(0, 0, 0, 0, -1, 0), BAD);
        Due.due("fifth behind two -1", x.addProduction(0, 0, 0, -1, -1, 17), BAD);
        Due.due("no edit yet", x.undo(), NONE);
        dueReport(x);
        Due.due("empty", add(x, 7), 0);
        Due.due("five symbols", add(x, 7, 17, 7, 17, 7, 17), 1);
        Due.due("the same with another left side", add(x, 6, 17, 7, 17, 7, 17), 2);
        Due.due("a prefix", add(x, 7, 17, 7, 17, 7), 3);
        Due.due("five times terminal 0", add(x, 0, 0, 0, 0, 0, 0), 4);
        Due.due("four times terminal 0", add(x, 0, 0, 0, 0, 0), 5);
        Due.due("a duplicate", add(x, 7, 17, 7, 17, 7), DUPLICATE);
        dueReport(x, 13, 7, 14, 3);
        Due.due("an empty duplicate", add(x, 7), DUPLICATE);
        dueReport(x, 13, 7, 14, 0);
        Due.due("BAD before DUPLICATE", x.addProduction(7, -1, 8, -1, -1, -1), BAD);
        dueReport(x, 13, 7, 14, 0);
        Due.due("productionCount()", x.productionCount(), 6);
        dueProduction(x, 0, 7);
        dueProduction(x, 1, 7, 17, 7, 17, 7, 17);
        dueProduction(x, 5, 0, 0, 0, 0, 0);
        x = fullGrammar(3);
        Due.due("a duplicate of 24", add(x, 3, 7, 2), DUPLICATE);
        dueReport(x, 13, 3, 14, 23);
        Due.due("a 25th", add(x, 3), FULL);
        dueReport(x, 13, 3, 14, 23);
        Due.due("BAD before FULL", x.addProduction(8, 0, -1, -1, -1, -1), BAD);
        Due.due("productionCount()", x.productionCount(), 24);
        Due.due("undo()", x.undo(), 9);
    }

    private static void removeProductionAndClear() {
        Due.part("promises 3 and 4");
        PredictiveGrammar x = new PredictiveGrammar();
        Due.due("removeProduction(0)", x.removeProduction(0), BAD);
        add(x, 0, 0);
        add(x, 1, 1);
        add(x, 2, 2);
        for (int wrong : new int[] {-1, 3, 24, Integer.MIN_VALUE, Integer.MAX_VALUE}) {
            Due.due("removeProduction(" + wrong + ")", x.removeProduction(wrong), BAD);
        }
        Due.due("removeProduction(1)", x.removeProduction(1), 2);
        dueProduction(x, 0, 0, 0);
        dueProduction(x, 1, 2, 2);
        Due.due("leftSide(2)", x.leftSide(2), BAD);
        Due.due("removeProduction(1)", x.removeProduction(1), 1);
        Due.due("the number is free again", add(x, 5, 5), 1);
        Due.due("clear()", x.clear(), 2);
        Due.due("productionCount()", x.productionCount(), 0);
        Due.due("clear() of nothing", x.clear(), 0);
        Due.due("undo() of that", x.undo(), 7);
        Due.due("productionCount()", x.productionCount(), 0);
        Due.due("undo()", x.undo(), 6);
        Due.due("productionCount()", x.productionCount(), 2);
        dueProduction(x, 1, 5, 5);
        x = new PredictiveGrammar();
        Due.due("clear() of a new object", x.clear(), 0);
        Due.due("undo() of it", x.undo(), 0);
        x = fullGrammar(0);
        Due.due("clear()", x.clear(), 24);
    }

    private static void readingProductions() {
        Due.part("promises 5 to 8");
        PredictiveGrammar x = new PredictiveGrammar();
        Due.due("leftSide(0)", x.leftSide(0), BAD);
        Due.due("rightLength(0)", x.rightLength(0), BAD);
        Due.due("rightSymbol(0, 0)", x.rightSymbol(0, 0), BAD);
        add(x, 4, 10, 7);
        add(x, 5);
        Due.due("productionCount()", x.productionCount(), 2);
        dueProduction(x, 0, 4, 10, 7);
        dueProduction(x, 1, 5);
        for (int wrong : new int[] {-1, 2, Integer.MIN_VALUE, Integer.MAX_VALUE}) {
            Due.due("leftSide(" + wrong + ")", x.leftSide(wrong), BAD);
            Due.due("rightLength(" + wrong + ")", x.rightLength(wrong), BAD);
            Due.due("rightSymbol(" + wrong + ", 0)", x.rightSymbol(wrong, 0), BAD);
            Due.due("rightSymbol(0, " + wrong + ")", x.rightSymbol(0, wrong), BAD);
        }
    }

    private static void nullableFirstFollow() {
        Due.part("promises 9 to 11");
        PredictiveGrammar x = new PredictiveGrammar();
        // 0 -> 1 2 t3; 1 -> t0 | ; 2 -> t1 | 1 1; 3 -> 3 t5; 4 -> 4; 5 -> 1 6 t7 (6 has no productions)
        add(x, 0, 11, 12, 3);
        add(x, 1, 0);
        add(x, 1);
        add(x, 2, 1);
        add(x, 2, 11, 11);
        add(x, 3, 13, 5);
        add(x, 4, 14);
        add(x, 5, 11, 16, 7);
        int[] nullable = {0, 1, 1, 0, 0, 0, 0, 0};
        int[] first = {1 | 2 | 8, 1, 1 | 2, 0, 0, 1, 0, 0};
        int[] follow = {256, 1 | 2 | 8, 8, 32, 0, 0, 128, 0};
        for (int n = 0; n < 8; n++) {
            Due.due("nullable(" + n + ")", x.nullable(n), nullable[n]);
            Due.due("firstSet(" + n + ")", x.firstSet(n), first[n]);
            Due.due("followSet(" + n + ")", x.followSet(n), follow[n]);
        }
        for (int wrong : WRONG) {
            Due.due("nullable(" + wrong + ")", x.nullable(wrong), BAD);
            Due.due("firstSet(" + wrong + ")", x.firstSet(wrong), BAD);
            Due.due("followSet(" + wrong + ")", x.followSet(wrong), BAD);
        }
        // follow sets spread through chains that stand against the order of the productions
        x.clear();
        add(x, 7, 0, 1);
        add(x, 6, 17);
        add(x, 5, 16);
        add(x, 0, 15, 7);
        Due.due("firstSet(0)", x.firstSet(0), 1);
        Due.due("followSet(7)", x.followSet(7), 128);
        x.clear();
        Due.due("followSet(0)", x.followSet(0), 256);
        Due.due("followSet(7)", x.followSet(7), 0);
    }

    private static void selectAndTable() {
        Due.part("promises 12 and 19");
        PredictiveGrammar x = new PredictiveGrammar();
        add(x, 0, 11, 12);
        add(x, 1, 0);
        add(x, 1);
        add(x, 2, 1);
        add(x, 2, 11);
        Due.due("selectSet(0)", x.selectSet(0), 1 | 2 | 256);
        Due.due("selectSet(1)", x.selectSet(1), 1);
        Due.due("selectSet(2)", x.selectSet(2), 1 | 2 | 256);
        Due.due("selectSet(3)", x.selectSet(3), 2);
        Due.due("selectSet(4)", x.selectSet(4), 1 | 256);
        for (int wrong : new int[] {-1, 5, Integer.MIN_VALUE, Integer.MAX_VALUE}) {
            Due.due("selectSet(" + wrong + ")", x.selectSet(wrong), BAD);
        }
        Due.due("tableEntry(1, 0), the lowest", x.tableEntry(1, 0), 1);
        Due.due("tableEntry(1, 1)", x.tableEntry(1, 1), 2);
        Due.due("tableEntry(1, 8)", x.tableEntry(1, 8), 2);
        Due.due("tableEntry(2, 8)", x.tableEntry(2, 8), 4);
        Due.due("tableEntry(2, 7)", x.tableEntry(2, 7), NONE);
        Due.due("tableEntry(7, 0)", x.tableEntry(7, 0), NONE);
        for (int wrong : WRONG) {
            Due.due("tableEntry(" + wrong + ", 0)", x.tableEntry(wrong, 0), BAD);
        }
        for (int wrong : new int[] {-1, 9, Integer.MIN_VALUE, Integer.MAX_VALUE}) {
            Due.due("tableEntry(0, " + wrong + ")", x.tableEntry(0, wrong), BAD);
        }
        x.removeProduction(0);
        Due.due("selectSet(0) afterwards", x.selectSet(0), 1);
        Due.due("selectSet(4) afterwards", x.selectSet(4), BAD);
        Due.due("tableEntry(0, 0) afterwards", x.tableEntry(0, 0), NONE);
    }

    private static void changedNonterminals() {
        Due.part("promise 13");
        PredictiveGrammar x = new PredictiveGrammar();
        Due.due("no edit", x.changedNonterminals(), 0);
        x.undo();
        Due.due("an undo that failed", x.changedNonterminals(), 0);
        add(x, 0, 11, 2);
        Due.due("first of 0 stays, follow of 1 changes", x.changedNonterminals(), 1);
        add(x, 1, 0);
        Due.due("first of 0 and 1", x.changedNonterminals(), 2);
        Due.due("asked again", x.changedNonterminals(), 2);
        add(x, 1, 0);
        Due.due("after a call that is no edit", x.changedNonterminals(), 2);
        add(x, 1);
        Due.due("nullability of 1, first of 0", x.changedNonterminals(), 2);
        add(x, 1, 0, 0);
        Due.due("an edit that changes nothing", x.changedNonterminals(), 0);
        x.undo();
        Due.due("its undo", x.changedNonterminals(), 0);
        x.undo();
        Due.due("undo of the empty one", x.changedNonterminals(), 2);
        x.undo();
        Due.due("undo of first of 0 and 1", x.changedNonterminals(), 2);
        x.undo();
        Due.due("undo of follow of 1", x.changedNonterminals(), 1);
        x.undo();
        Due.due("an undo that failed", x.changedNonterminals(), 1);
        add(x, 0, 11, 2);
        add(x, 1, 0);
        x.removeProduction(9);
        Due.due("a call that answers BAD", x.changedNonterminals(), 2);
        x.clear();
        Due.due("clear", x.changedNonterminals(), 2);
        x.clear();
        Due.due("clear of nothing", x.changedNonterminals(), 0);
    }

    private static void productiveReachableLeftRecursive() {
        Due.part("promises 14 to 16");
        PredictiveGrammar x = new PredictiveGrammar();
        // 0 -> 1 2; 1 -> | t0; 2 -> 1 2 t1 | t2; 3 -> 4; 4 -> 5 3; 5 -> ; 6 -> t0 6; 7 -> 6 7
        add(x, 0, 11, 12);
        add(x, 1);
        add(x, 1, 0);
        add(x, 2, 11, 12, 1);
        add(x, 2, 2);
        add(x, 3, 14);
        add(x, 4, 15, 13);
        add(x, 5);
        add(x, 6, 0, 16);
        add(x, 7, 16, 17);
        int[] productive = {1, 1, 1, 0, 0, 1, 0, 0};
        int[] reachable = {1, 1, 1, 0, 0, 0, 0, 0};
        int[] leftRecursive = {0, 0, 1, 1, 1, 0, 0, 0};
        for (int n = 0; n < 8; n++) {
            Due.due("productive(" + n + ")", x.productive(n), productive[n]);
            Due.due("reachable(" + n + ")", x.reachable(n), reachable[n]);
            Due.due("leftRecursive(" + n + ")", x.leftRecursive(n), leftRecursive[n]);
        }
        for (int wrong : WRONG) {
            Due.due("productive(" + wrong + ")", x.productive(wrong), BAD);
            Due.due("reachable(" + wrong + ")", x.reachable(wrong), BAD);
            Due.due("leftRecursive(" + wrong + ")", x.leftRecursive(wrong), BAD);
        }
        x.clear();
        Due.due("reachable(0) of nothing", x.reachable(0), 1);
        Due.due("productive(0) of nothing", x.productive(0), 0);
        // a circle through all eight, its productions against the order
        for (int n = 0; n < 8; n++) {
            add(x, n, 10 + (n + 1) % 8, n);
        }
        for (int n = 0; n < 8; n++) {
            Due.due("leftRecursive(" + n + ") in the circle", x.leftRecursive(n), 1);
            Due.due("reachable(" + n + ") in the circle", x.reachable(n), 1);
            Due.due("productive(" + n + ") in the circle", x.productive(n), 0);
        }
        x.clear();
        for (int n = 0; n < 8; n++) {
            Due.due("leftRecursive(" + n + ") of nothing", x.leftRecursive(n), 0);
            Due.due("reachable(" + n + ") of nothing", x.reachable(n), n == 0 ? 1 : 0);
        }
        // chains whose productions stand against and along the order
        for (int n = 7; n > 0; n--) {
            add(x, n - 1, 1, 10 + n);
        }
        Due.due("reachable(7) at the end of the chain", x.reachable(7), 1);
        Due.due("productive(0) before the chain has an end", x.productive(0), 0);
        add(x, 7);
        Due.due("productive(0) of the chain", x.productive(0), 1);
        x.clear();
        add(x, 0, 11);
        add(x, 1, 12);
        add(x, 2, 13);
        add(x, 3);
        Due.due("productive(0) along the order", x.productive(0), 1);
        Due.due("nullable(0) along the order", x.nullable(0), 1);
        // productive also if the shortest string is too long to exist
        x.clear();
        for (int n = 0; n < 3; n++) {
            add(x, n, 11 + n, 11 + n, 11 + n, 11 + n);
        }
        add(x, 3, 0);
        Due.due("productive(0) of 64 terminals", x.productive(0), 1);
        Due.due("shortestLength(0) of 64 terminals", x.shortestLength(0), NONE);
        Due.due("shortestLength(1) of 16 terminals", x.shortestLength(1), 16);
    }

    private static void shortest() {
        Due.part("promises 17 and 18");
        PredictiveGrammar x = new PredictiveGrammar();
        add(x, 0, 3, 11);
        add(x, 0, 2, 12);
        add(x, 1, 0);
        add(x, 2, 7);
        add(x, 2, 1, 1);
        add(x, 3, 13, 0);
        add(x, 4);
        Due.due("shortestLength(0)", x.shortestLength(0), 2);
        dueWord("shortest string of 0", k -> xWord(x, 0, k), "27");
        Due.due("shortestLength(3)", x.shortestLength(3), NONE);
        dueWord("shortest string of 3", k -> xWord(x, 3, k), "");
        Due.due("shortestLength(4)", x.shortestLength(4), 0);
        dueWord("shortest string of 4", k -> xWord(x, 4, k), "");
        for (int wrong : WRONG) {
            Due.due("shortestLength(" + wrong + ")", x.shortestLength(wrong), BAD);
            Due.due("shortestTerminal(" + wrong + ", 0)", x.shortestTerminal(wrong, 0), BAD);
        }
        add(x, 2, 0);
        dueWord("after an edit", k -> xWord(x, 0, k), "20");
        x.undo();
        dueWord("after an undo", k -> xWord(x, 0, k), "27");
        PredictiveGrammar forty = fortyGrammar();
        Due.due("40 terminals", forty.shortestLength(0), 40);
        dueWord("40 terminals", k -> xWord(forty, 0, k), "01230123".repeat(4) + "45677654");
        PredictiveGrammar more = fortyGrammar(0);
        Due.due("41 terminals", more.shortestLength(0), NONE);
        Due.due("41 terminals, the first", more.shortestTerminal(0, 0), NONE);
        Due.due("a part of them", more.shortestLength(2), 9);
    }

    private static int xWord(PredictiveGrammar x, int n, int k) {
        return x.shortestTerminal(n, k);
    }

    private static void conflicts() {
        Due.part("promises 20 to 22");
        PredictiveGrammar x = new PredictiveGrammar();
        // 1 has conflicts of kind 0 and 1, 2 of kind 2, 0 of kind 0
        add(x, 1, 0, 1);
        add(x, 0, 11, 0);
        add(x, 1, 0, 2);
        add(x, 1);
        add(x, 0, 12);
        add(x, 2, 13);
        add(x, 2, 14);
        add(x, 3);
        add(x, 4);
        // select: 1 {0} 0->11 0 {0}; 2 {0}; 3 {0}; 4 {8}; 5 {8}; 6 {8}
        int[][] want = {{1, 0, 0, 2}, {1, 0, 0, 3}, {1, 0, 2, 3}, {2, 8, 5, 6}};
        int[] kinds = {0, 1, 1, 2};
        Due.due("conflictCount()", x.conflictCount(), want.length);
        for (int i = 0; i < want.length; i++) {
            for (int what = 0; what < 4; what++) {
                Due.due("conflict(" + i + ", " + what + ")", x.conflict(i, what), want[i][what]);
            }
            Due.due("conflictKind(" + i + ")", x.conflictKind(i), kinds[i]);
            Due.due("conflict(" + i + ", 4)", x.conflict(i, 4), BAD);
            Due.due("conflict(" + i + ", -1)", x.conflict(i, -1), BAD);
        }
        for (int wrong : new int[] {-1, 4, Integer.MIN_VALUE, Integer.MAX_VALUE}) {
            Due.due("conflict(" + wrong + ", 0)", x.conflict(wrong, 0), BAD);
            Due.due("conflictKind(" + wrong + ")", x.conflictKind(wrong), BAD);
        }
        // the order: nonterminal, token, p, q; two tokens shared by three productions
        x.clear();
        add(x, 1, 3);
        add(x, 1, 4);
        add(x, 0, 11, 0);
        add(x, 0, 11, 1);
        add(x, 0, 11, 2);
        Due.due("conflictCount()", x.conflictCount(), 6);
        int i = 0;
        for (int token = 3; token <= 4; token++) {
            for (int p = 2; p < 5; p++) {
                for (int q = p + 1; q < 5; q++) {
                    Due.due("nonterminal", x.conflict(i, 0), 0);
                    Due.due("token", x.conflict(i, 1), token);
                    Due.due("p", x.conflict(i, 2), p);
                    Due.due("q", x.conflict(i, 3), q);
                    i++;
                }
            }
        }
        mostConflicts();
    }

    /** 24 productions that all are possible for all nine tokens. */
    private static void mostConflicts() {
        PredictiveGrammar x = new PredictiveGrammar();
        add(x, 0);
        for (int t = 0; t < 8; t++) {
            add(x, 0, 10, t);
        }
        for (int i = 0; i < 15; i++) {
            add(x, 0, 10, 10, i / 8, i % 8);
        }
        Due.due("23 productions for each terminal, and the empty one", x.conflictCount(), 8 * 276);
        Due.due("the last one's token", x.conflict(8 * 276 - 1, 1), 7);
        Due.due("the last one's p", x.conflict(8 * 276 - 1, 2), 22);
        Due.due("the last one's q", x.conflict(8 * 276 - 1, 3), 23);
        Due.due("one more", x.conflict(8 * 276, 0), BAD);
    }

    private static void examples() {
        Due.part("promises 23 and 24");
        PredictiveGrammar x = new PredictiveGrammar();
        // 0 -> t7 1 t1 | t6 1 t0; 1 -> t0 | ; the conflict is 1 at t0
        add(x, 0, 7, 11, 1);
        add(x, 0, 6, 11, 0);
        add(x, 1, 0);
        add(x, 1);
        Due.due("conflictCount()", x.conflictCount(), 1);
        Due.due("exampleLength(0, 0)", x.exampleLength(0, 0), 3);
        dueWord("the least, not the first", k -> x.exampleTerminal(0, 0, k), "600");
        Due.due("exampleLength(0, 1)", x.exampleLength(0, 1), 2);
        dueWord("t0 comes behind", k -> x.exampleTerminal(0, 1, k), "60");
        for (int wrong : new int[] {-1, 1, 2, Integer.MIN_VALUE, Integer.MAX_VALUE}) {
            Due.due("exampleLength(" + wrong + ", 0)", x.exampleLength(wrong, 0), BAD);
            Due.due("exampleTerminal(" + wrong + ", 0, 0)", x.exampleTerminal(wrong, 0, 0), BAD);
        }
        for (int wrong : new int[] {-1, 2, Integer.MIN_VALUE, Integer.MAX_VALUE}) {
            Due.due("exampleLength(0, " + wrong + ")", x.exampleLength(0, wrong), BAD);
            Due.due("exampleTerminal(0, " + wrong + ", 0)", x.exampleTerminal(0, wrong, 0), BAD);
        }
        // at the end marker: 0 -> t3 1, 1 -> 2 | 3, both empty
        PredictiveGrammar y = new PredictiveGrammar();
        add(y, 0, 3, 11);
        add(y, 1, 12);
        add(y, 1, 13);
        add(y, 2);
        add(y, 3);
        add(y, 3, 0);
        Due.due("the token is the end marker", y.conflict(0, 1), 8);
        dueWord("its example", k -> y.exampleTerminal(0, 0, k), "3");
        dueWord("its other example", k -> y.exampleTerminal(0, 1, k), "3");
        // the nonterminal around the place is not nullable itself
        PredictiveGrammar v = new PredictiveGrammar();
        add(v, 0, 11);
        add(v, 1, 3, 12);
        add(v, 2, 13);
        add(v, 2);
        add(v, 3);
        dueWord("at the end marker", k -> v.exampleTerminal(0, 0, k), "3");
        dueWord("at the end marker", k -> v.exampleTerminal(0, 1, k), "3");
        // at the end of five symbols nothing comes behind, whatever the next production is
        PredictiveGrammar w = new PredictiveGrammar();
        add(w, 0, 6, 6, 6, 6, 11);
        add(w, 0, 5);
        add(w, 0, 7, 10, 5, 7, 7);
        add(w, 1, 5);
        add(w, 1);
        Due.due("the token is t5", w.conflict(0, 1), 5);
        dueWord("t5 in it", k -> w.exampleTerminal(0, 0, k), "66665");
        dueWord("t5 behind it", k -> w.exampleTerminal(0, 1, k), "76666577");
        // nonterminals that cannot be reached or do not derive a string have no examples
        PredictiveGrammar z = new PredictiveGrammar();
        add(z, 0, 0);
        add(z, 1, 1);
        add(z, 1, 1, 1);
        Due.due("exampleLength of an unreachable one", z.exampleLength(0, 0), NONE);
        Due.due("exampleTerminal of an unreachable one", z.exampleTerminal(0, 0, 0), NONE);
        add(z, 0, 11, 12);
        Due.due("the follow-up derives nothing", z.exampleLength(0, 1), NONE);
        add(z, 2, 5);
        Due.due("now it does", z.exampleLength(0, 1), 3);
        dueWord("its example", k -> z.exampleTerminal(0, 1, k), "115");
        Due.due("the other example", z.exampleLength(0, 0), 2);
    }

    private static void exampleLimits() {
        Due.part("promises 23 and 24, long ones");
        PredictiveGrammar x = fortyGrammar();
        // 5 -> t7 t6 t5 t4 | t7 6, where 6 -> t7 t7 t7
        add(x, 5, 7, 16);
        add(x, 6, 7, 7, 7);
        Due.due("conflictCount()", x.conflictCount(), 1);
        Due.due("exampleLength(0, 0)", x.exampleLength(0, 0), 40);
        dueWord("40 terminals", k -> x.exampleTerminal(0, 0, k), "01230123".repeat(4) + "45677654");
        dueWord("40 terminals", k -> x.exampleTerminal(0, 1, k), "01230123".repeat(4) + "45677777");
        x.removeProduction(x.productionCount() - 1);
        add(x, 6, 7, 7, 7, 7);
        Due.due("41 terminals", x.exampleLength(0, 1), NONE);
        Due.due("41 terminals", x.exampleTerminal(0, 1, 0), NONE);
        Due.due("the other one", x.exampleLength(0, 0), 40);
    }

    private static void check() {
        Due.part("promise 25");
        PredictiveGrammar x = new PredictiveGrammar();
        Due.due("check() of nothing", x.check(), 0);
        add(x, 3, 5);
        add(x, 3, 5, 0);
        add(x, 3, 5, 1);
        Due.due("check()", x.check(), FAILED);
        dueReport(x, 8, 3, 9, 3, 10, 5);
        x.clear();
        Due.due("check()", x.check(), 0);
        dueReport(x, 8, 3, 9, 3, 10, 5);
        add(x, 0, 11, 6);
        add(x, 1, 6);
        add(x, 1);
        Due.due("check()", x.check(), FAILED);
        dueReport(x, 8, 1, 9, 1, 11, 6);
        x.clear();
        add(x, 0);
        add(x, 0, 11);
        add(x, 1);
        Due.due("check()", x.check(), FAILED);
        dueReport(x, 8, 1, 9, 0, 12, 8);
    }

    private static void leftFactor() {
        Due.part("promise 26");
        PredictiveGrammar x = new PredictiveGrammar();
        for (int wrong : WRONG) {
            Due.due("leftFactor(" + wrong + ")", x.leftFactor(wrong), BAD);
        }
        add(x, 0, 1, 2);
        add(x, 0, 3, 4, 5, 11);
        add(x, 2, 3, 4, 5, 6);
        add(x, 0, 1, 3);
        add(x, 0, 3, 4, 6);
        add(x, 0, 3, 4);
        add(x, 0, 5, 6, 7);
        add(x, 0, 5, 6);
        add(x, 0);
        Due.due("no common prefix", x.leftFactor(2), NONE);
        Due.due("no productions", x.leftFactor(1), NONE);
        Due.due("leftFactor(0)", x.leftFactor(0), 3);
        Due.due("productionCount()", x.productionCount(), 10);
        dueProduction(x, 0, 0, 1, 2);
        dueProduction(x, 1, 0, 3, 4, 13);
        dueProduction(x, 2, 2, 3, 4, 5, 6);
        dueProduction(x, 3, 0, 1, 3);
        dueProduction(x, 4, 0, 5, 6, 7);
        dueProduction(x, 5, 0, 5, 6);
        dueProduction(x, 6, 0);
        dueProduction(x, 7, 3, 5, 11);
        dueProduction(x, 8, 3, 6);
        dueProduction(x, 9, 3);
        Due.due("then the other pair of length 2", x.leftFactor(0), 4);
        dueProduction(x, 4, 0, 5, 6, 14);
        dueProduction(x, 5, 0);
        Due.due("then the pair of length 1", x.leftFactor(0), 5);
        dueProduction(x, 0, 0, 1, 15);
        Due.due("then nothing", x.leftFactor(0), NONE);
        dueReport(x);
        // productions that are removed do not come back
        x.clear();
        add(x, 0, 1, 2);
        add(x, 0, 1, 3);
        add(x, 0, 1, 4);
        x.removeProduction(2);
        Due.due("leftFactor(0)", x.leftFactor(0), 1);
        Due.due("productionCount()", x.productionCount(), 3);
        Due.due("selectSet(0)", x.selectSet(0), 2);
        Due.due("firstSet(1)", x.firstSet(1), 12);
        // a prefix of four symbols, of a nonterminal that is lower than the unused ones
        x.clear();
        add(x, 1, 0, 0, 0, 0, 0);
        add(x, 1, 0, 0, 0, 0);
        Due.due("leftFactor(1)", x.leftFactor(1), 2);
        dueProduction(x, 0, 1, 0, 0, 0, 0, 12);
        dueProduction(x, 1, 2, 0);
        dueProduction(x, 2, 2);
        // 0 and n are not taken, also if 0 occurs nowhere; occurring in a right side is enough to be used
        x.clear();
        add(x, 3, 11, 5);
        add(x, 3, 11, 12);
        Due.due("leftFactor(3)", x.leftFactor(3), 4);
    }

    private static void leftFactorFull() {
        Due.part("promise 26, no room");
        PredictiveGrammar x = fullGrammar(0);
        add(x, 0);
        x.removeProduction(23);
        add(x, 0, 0, 5);
        Due.due("leftFactor(0)", x.leftFactor(0), FULL);
        dueReport(x, 15, 0, 17, 25);
        Due.due("productionCount()", x.productionCount(), 24);
        x.removeProduction(23);
        Due.due("leftFactor(0) of 23", x.leftFactor(0), 1);
        Due.due("productionCount()", x.productionCount(), 24);
        PredictiveGrammar y = new PredictiveGrammar();
        add(y, 0, 11, 12, 13, 14, 15);
        add(y, 0, 11, 16, 17);
        Due.due("leftFactor(0)", y.leftFactor(0), FULL);
        dueReport(y, 15, 0, 16, 0);
        Due.due("productionCount()", y.productionCount(), 2);
        Due.due("leftFactor(1)", y.leftFactor(1), NONE);
        while (y.productionCount() < 24) {
            add(y, 7, y.productionCount() / 8, y.productionCount() % 8);
        }
        Due.due("no nonterminal comes first", y.leftFactor(0), FULL);
        dueReport(y, 15, 0, 16, 0);
        // the last one left is n itself
        y.clear();
        add(y, 7, 11, 12, 13, 14, 15);
        add(y, 7, 11, 16);
        Due.due("leftFactor(7)", y.leftFactor(7), FULL);
        dueReport(y, 15, 7, 16, 0);
    }

    private static void removeLeftRecursion() {
        Due.part("promise 27");
        PredictiveGrammar x = new PredictiveGrammar();
        for (int wrong : WRONG) {
            Due.due("removeLeftRecursion(" + wrong + ")", x.removeLeftRecursion(wrong), BAD);
        }
        Due.due("no productions", x.removeLeftRecursion(0), NONE);
        add(x, 2, 12, 0, 1, 2, 3);
        add(x, 0, 12, 7);
        add(x, 2, 4, 12);
        add(x, 2, 12, 12);
        add(x, 2);
        add(x, 1, 10, 11);
        Due.due("no direct recursion", x.removeLeftRecursion(1), NONE);
        Due.due("removeLeftRecursion(2)", x.removeLeftRecursion(2), 3);
        Due.due("productionCount()", x.productionCount(), 7);
        dueProduction(x, 0, 0, 12, 7);
        dueProduction(x, 1, 2, 4, 12, 13);
        dueProduction(x, 2, 2, 13);
        dueProduction(x, 3, 1, 10, 11);
        dueProduction(x, 4, 3, 0, 1, 2, 3, 13);
        dueProduction(x, 5, 3, 12, 13);
        dueProduction(x, 6, 3);
        dueReport(x);
        Due.due("undo()", x.undo(), 6);
        dueProduction(x, 0, 2, 12, 0, 1, 2, 3);
        dueProduction(x, 4, 2);
    }

    private static void removeLeftRecursionFails() {
        Due.part("promise 27, failures");
        PredictiveGrammar x = new PredictiveGrammar();
        add(x, 0, 10, 1);
        add(x, 0, 10, 2);
        Due.due("all are recursive", x.removeLeftRecursion(0), FAILED);
        dueReport(x, 15, 0, 19, 2);
        add(x, 0, 10);
        Due.due("one is n alone", x.removeLeftRecursion(0), FAILED);
        dueReport(x, 15, 0, 18, 2);
        x.removeProduction(2);
        add(x, 0, 3);
        add(x, 0, 1, 2, 3, 4, 5);
        add(x, 0, 2, 2, 3, 4, 5);
        add(x, 0, 10, 2, 3, 4, 5);
        Due.due("another has five symbols", x.removeLeftRecursion(0), FAILED);
        dueReport(x, 15, 0, 20, 3);
        add(x, 0, 10);
        Due.due("n alone comes first", x.removeLeftRecursion(0), FAILED);
        dueReport(x, 15, 0, 18, 6);
        Due.due("productionCount()", x.productionCount(), 7);
        x.clear();
        add(x, 1, 11, 1);
        add(x, 1, 2);
        add(x, 0, 12, 13, 14, 15, 16);
        add(x, 0, 17);
        Due.due("no nonterminal", x.removeLeftRecursion(1), FULL);
        dueReport(x, 15, 1, 16, 0);
        Due.due("productionCount()", x.productionCount(), 4);
        x.removeProduction(3);
        while (x.productionCount() < 24) {
            add(x, 0, x.productionCount() / 8, x.productionCount() % 8);
        }
        Due.due("no production", x.removeLeftRecursion(1), FULL);
        dueReport(x, 15, 1, 17, 25);
        x.removeProduction(23);
        Due.due("one less", x.removeLeftRecursion(1), 7);
        Due.due("productionCount()", x.productionCount(), 24);
        x = new PredictiveGrammar();
        add(x, 1, 2, 2, 2, 2, 2);
        add(x, 1, 11, 1);
        Due.due("production 0 has five symbols", x.removeLeftRecursion(1), FAILED);
        dueReport(x, 15, 1, 20, 0);
        x = new PredictiveGrammar();
        add(x, 1, 11);
        add(x, 1, 1);
        Due.due("production 0 is n alone", x.removeLeftRecursion(1), FAILED);
        dueReport(x, 15, 1, 18, 0);
        // productions that are removed do not come back
        x = new PredictiveGrammar();
        add(x, 0, 2);
        add(x, 0, 10, 3);
        add(x, 0, 10, 4);
        x.removeProduction(2);
        Due.due("removeLeftRecursion(0)", x.removeLeftRecursion(0), 1);
        Due.due("productionCount()", x.productionCount(), 3);
        dueProduction(x, 1, 1, 3, 11);
        dueProduction(x, 2, 1);
        Due.due("conflictCount()", x.conflictCount(), 0);
        Due.due("followSet(1)", x.followSet(1), 256);
        x = new PredictiveGrammar();
        add(x, 1, 11, 1);
        add(x, 1, 2, 2, 2, 2, 2);
        add(x, 0, 12, 13, 14, 15, 16);
        add(x, 0, 17);
        Due.due("FAILED before FULL", x.removeLeftRecursion(1), FAILED);
        dueReport(x, 15, 1, 20, 1);
    }

    private static void undo() {
        Due.part("promise 28");
        PredictiveGrammar x = new PredictiveGrammar();
        Due.due("undo()", x.undo(), NONE);
        for (int i = 0; i < 12; i++) {
            add(x, 0, i % 8, i / 8);
        }
        for (int left = 9; left >= 0; left--) {
            Due.due("undo()", x.undo(), left);
            Due.due("productionCount()", x.productionCount(), 2 + left);
        }
        Due.due("undo()", x.undo(), NONE);
        Due.due("productionCount()", x.productionCount(), 2);
        dueProduction(x, 1, 0, 1, 0);
        // edits that were reverted do not count among the ten
        for (int i = 0; i < 10; i++) {
            add(x, 1, i % 8, i / 8);
        }
        x.undo();
        x.undo();
        x.clear();
        x.clear();
        for (int left = 9; left >= 0; left--) {
            Due.due("undo()", x.undo(), left);
        }
        Due.due("productionCount()", x.productionCount(), 2);
        Due.due("undo()", x.undo(), NONE);
        // undo reverts all kinds of edits
        x = new PredictiveGrammar();
        add(x, 0, 10, 1);
        add(x, 0, 2);
        add(x, 0, 2, 3);
        x.leftFactor(0);
        x.removeLeftRecursion(0);
        x.removeProduction(0);
        x.clear();
        Due.due("undo()", x.undo(), 6);
        Due.due("productionCount()", x.productionCount(), 4);
        Due.due("undo()", x.undo(), 5);
        dueProduction(x, 0, 0, 2, 11, 12);
        Due.due("undo()", x.undo(), 4);
        dueProduction(x, 0, 0, 10, 1);
        dueProduction(x, 1, 0, 2, 11);
        Due.due("undo()", x.undo(), 3);
        dueProduction(x, 2, 0, 2, 3);
        Due.due("productionCount()", x.productionCount(), 3);
        Due.due("firstSet(0)", x.firstSet(0), 4);
        Due.due("calls that fail are no edits", x.addProduction(0, 2, -1, -1, -1, -1), DUPLICATE);
        Due.due("undo()", x.undo(), 2);
    }

    private static void setSynchronizing() {
        Due.part("promise 29");
        PredictiveGrammar x = new PredictiveGrammar();
        for (int wrong : WRONG) {
            Due.due("setSynchronizing(" + wrong + ", 0)", x.setSynchronizing(wrong, 0), BAD);
        }
        for (int wrong : new int[] {-1, 512, Integer.MIN_VALUE, Integer.MAX_VALUE}) {
            Due.due("setSynchronizing(0, " + wrong + ")", x.setSynchronizing(0, wrong), BAD);
        }
        Due.due("setSynchronizing(7, 511)", x.setSynchronizing(7, 511), 0);
        Due.due("setSynchronizing(0, 5)", x.setSynchronizing(0, 5), 0);
        Due.due("no edit", x.undo(), NONE);
        add(x, 0, 1);
        x.clear();
        x.undo();
        Due.due("setSynchronizing(7, 0)", x.setSynchronizing(7, 0), 511);
        Due.due("setSynchronizing(0, 6)", x.setSynchronizing(0, 6), 5);
        Due.due("setSynchronizing(7, 1)", x.setSynchronizing(7, 1), 0);
    }

    private static void input() {
        Due.part("promises 30 to 32");
        PredictiveGrammar x = new PredictiveGrammar();
        for (int wrong : new int[] {0, -1, -12, 9, 10, 19, 91, 102, 1000000000, 1111111119, Integer.MIN_VALUE}) {
            Due.due("appendInput(" + wrong + ")", x.appendInput(wrong), BAD);
        }
        Due.due("appendInput(8)", x.appendInput(8), 1);
        Due.due("appendInput(1234567)", x.appendInput(1234567), 8);
        dueWord("the input", x::inputTerminal, "70123456");
        Due.due("ten digits", x.appendInput(2111111118), 18);
        dueWord("the input", x::inputTerminal, "701234561000000007");
        Due.due("appendInput(1888888888)", x.appendInput(1888888888), 28);
        Due.due("appendInput(1111111111)", x.appendInput(1111111111), 38);
        Due.due("three more", x.appendInput(111), FULL);
        Due.due("BAD before FULL", x.appendInput(190), BAD);
        Due.due("two more", x.appendInput(34), 40);
        Due.due("one more", x.appendInput(1), FULL);
        dueWord("the input", x::inputTerminal, "701234561000000007" + "0777777777" + "0000000000" + "23");
        Due.due("clearInput()", x.clearInput(), 40);
        dueWord("the input", x::inputTerminal, "");
        Due.due("the greatest number has no other digits", x.appendInput(Integer.MAX_VALUE), 10);
        dueWord("the input", x::inputTerminal, "1036372536");
        x.clearInput();
        Due.due("clearInput()", x.clearInput(), 0);
        Due.due("appendInput(5)", x.appendInput(5), 1);
        x.clear();
        Due.due("the grammar's clear leaves it", x.inputTerminal(0), 4);
    }

    private static void parse() {
        Due.part("promise 33");
        PredictiveGrammar x = new PredictiveGrammar();
        add(x, 0, 11, 12);
        add(x, 1, 0);
        add(x, 2, 1, 11, 12);
        add(x, 2);
        x.appendInput(121);
        Due.due("parse()", x.parse(), 8);
        Due.due("no report", x.failureLevels(), 0);
        int[] trace = {0, 1, 2, 1, 3};
        Due.due("traceLength()", x.traceLength(), trace.length);
        for (int i = 0; i < trace.length; i++) {
            Due.due("trace(" + i + ")", x.trace(i), trace[i]);
        }
        x.removeProduction(0);
        Due.due("an edit leaves the trace", x.trace(2), 2);
        Due.due("an edit leaves the tree", x.nodeCount(), 8);
        x.undo();
        Due.due("undo leaves the tree", x.nodeSymbol(1), 11);
        x.appendInput(2);
        Due.due("parse() of t0 t1 t0 t1", x.parse(), FAILED);
        dueReport(x, 1, 4, 3, 1, 6, 1);
        Due.due("the trace until then", x.traceLength(), 5);
        Due.due("trace(4)", x.trace(4), 2);
        Due.due("no tree", x.nodeCount(), 0);
        // the lowest of several productions is taken
        x.clear();
        x.clearInput();
        add(x, 0, 1, 1);
        add(x, 0, 1);
        x.appendInput(2);
        Due.due("parse()", x.parse(), FAILED);
        dueReport(x, 1, 1, 2, 1);
        // nothing to derive, nothing to read
        x.clear();
        x.clearInput();
        add(x, 0);
        Due.due("parse() of nothing", x.parse(), 1);
        Due.due("nodeCount()", x.nodeCount(), 1);
        dueReport(x, 1, 1, 2, 1);
    }

    private static void parseFails() {
        Due.part("promise 33, failures");
        PredictiveGrammar x = new PredictiveGrammar();
        Due.due("no productions", x.parse(), FAILED);
        dueReport(x, 1, 0, 3, 0, 5, 0);
        add(x, 0, 3, 15);
        x.appendInput(48);
        Due.due("no productions of 5", x.parse(), FAILED);
        dueReport(x, 1, 1, 3, 5, 5, 5);
        add(x, 5, 6);
        add(x, 5, 5, 5);
        add(x, 5, 6, 6);
        Due.due("no entry", x.parse(), FAILED);
        dueReport(x, 1, 1, 3, 5, 6, 2);
        x.clearInput();
        x.appendInput(4778);
        Due.due("three remain", x.parse(), FAILED);
        dueReport(x, 1, 2, 4, 2);
        x.clear();
        add(x, 0, 3, 2);
        Due.due("a terminal is missing", x.parse(), FAILED);
        dueReport(x, 1, 1, 2, 2);
        x.clearInput();
        x.appendInput(4);
        Due.due("a terminal is missing at the end", x.parse(), FAILED);
        dueReport(x, 1, 1, 2, 2);
        // a production without tokens to select it: no entries at all
        x.clear();
        add(x, 0, 10);
        Due.due("no entries", x.parse(), FAILED);
        dueReport(x, 1, 0, 3, 0, 6, 0);
    }

    private static void parseLimits() {
        Due.part("promise 33, limits");
        PredictiveGrammar x = new PredictiveGrammar();
        // 0 -> 0 | t0: it is replaced by itself for ever
        add(x, 0, 10);
        add(x, 0, 0);
        x.appendInput(1);
        Due.due("parse()", x.parse(), LIMIT);
        dueReport(x, 1, 0, 7, 300);
        Due.due("traceLength()", x.traceLength(), 300);
        Due.due("trace(299)", x.trace(299), 0);
        Due.due("trace(300)", x.trace(300), NONE);
        Due.due("nodeCount()", x.nodeCount(), 0);
        // each step puts four symbols more: 1, 5, .. 57, 61
        x.clear();
        add(x, 0, 10, 1, 1, 1, 1);
        add(x, 0, 0);
        Due.due("parse()", x.parse(), LIMIT);
        dueReport(x, 1, 0, 7, 15);
        Due.due("traceLength()", x.traceLength(), 15);
        sixtySymbols();
        lastStep();
    }

    private static void sixtySymbols() {
        Due.part("promises 33 and 34, 60 symbols");
        PredictiveGrammar x = stackGrammar(2, 2, 2);
        Due.due("60 symbols are parsed", x.parse(), FAILED);
        dueReport(x, 1, 22, 2, 1);
        Due.due("60 symbols are recovered from", x.recover(), 57);
        x = stackGrammar(2, 2, 2, 2);
        Due.due("61 symbols are not parsed", x.parse(), LIMIT);
        dueReport(x, 1, 19, 7, 39);
        Due.due("traceLength()", x.traceLength(), 20);
        Due.due("trace(19)", x.trace(19), 1);
        Due.due("61 symbols are not recovered from", x.recover(), LIMIT);
        Due.due("error(0, 0)", x.error(0, 0), NONE);
        Due.due("traceLength()", x.traceLength(), 20);
    }

    /** To accept and to fail after exactly 300 steps is no step more. */
    private static void lastStep() {
        Due.part("promises 33 and 34, 300 steps");
        Due.due("299 steps", stepsGrammar(1, 13).parse(), 299);
        PredictiveGrammar x = stepsGrammar(1, 13, 12);
        Due.due("300 steps", x.parse(), 300);
        Due.due("nodeCount()", x.nodeCount(), 300);
        Due.due("nodeSymbol(299)", x.nodeSymbol(299), 12);
        Due.due("nodeHeight(0)", x.nodeHeight(0), 41);
        Due.due("300 steps", x.recover(), 0);
        x.appendInput(8);
        Due.due("fails after 300 steps", x.parse(), FAILED);
        dueReport(x, 1, 39, 4, 1);
        Due.due("an error would be the 301st step", x.recover(), LIMIT);
        Due.due("error(0, 0)", x.error(0, 0), NONE);
        x = stepsGrammar(1, 13, 12, 12);
        Due.due("301 steps", x.parse(), LIMIT);
        dueReport(x, 1, 39, 7, 300);
        Due.due("nodeCount()", x.nodeCount(), 0);
        Due.due("301 steps", x.recover(), LIMIT);
    }

    private static void recover() {
        Due.part("promises 34 and 35");
        PredictiveGrammar x = new PredictiveGrammar();
        // 0 -> t0 1 t1; 1 -> t2
        add(x, 0, 0, 11, 1);
        add(x, 1, 2);
        x.appendInput(132);
        Due.due("no error", x.recover(), 0);
        Due.due("error(0, 0)", x.error(0, 0), NONE);
        Due.due("traceLength()", x.traceLength(), 2);
        Due.due("the tree becomes empty", x.nodeCount(), 0);
        x.parse();
        Due.due("nodeCount()", x.nodeCount(), 5);
        x.clearInput();
        // t0, then t1 (in the follow set of 1: kind 1), then t7 too many (kind 3)
        x.appendInput(128);
        Due.due("recover()", x.recover(), 2);
        dueError(x, 0, 1, 1, 11);
        dueError(x, 1, 2, 3, -1);
        Due.due("nodeCount()", x.nodeCount(), 0);
        Due.due("no report", x.failureLevels(), 0);
        // t7 is skipped twice (kind 2), t2, then t1 is missing (kind 0) before t3, which remains (kind 3)
        x.clearInput();
        x.appendInput(18834);
        Due.due("recover()", x.recover(), 4);
        dueError(x, 0, 1, 2, 11);
        dueError(x, 1, 2, 2, 11);
        dueError(x, 2, 4, 0, 1);
        dueError(x, 3, 4, 3, -1);
        x.parse();
        Due.due("parse leaves the errors", x.error(3, 1), 3);
        x.clear();
        Due.due("edits leave the errors", x.error(3, 1), 3);
        x.undo();
        // t3 is in the synchronizing set: kind 1, then t1 is missing
        x.setSynchronizing(1, 8);
        x.clearInput();
        x.appendInput(142);
        Due.due("recover()", x.recover(), 3);
        dueError(x, 0, 1, 1, 11);
        dueError(x, 1, 1, 0, 1);
        dueError(x, 2, 1, 3, -1);
        // the end of the input: kind 1 for each nonterminal, kind 0 for each terminal
        x.clearInput();
        Due.due("recover()", x.recover(), 1);
        dueError(x, 0, 0, 1, 10);
        x.appendInput(1);
        Due.due("recover()", x.recover(), 2);
        dueError(x, 0, 1, 1, 11);
        dueError(x, 1, 1, 0, 1);
        for (int wrong : new int[] {-1, 3, Integer.MIN_VALUE, Integer.MAX_VALUE}) {
            Due.due("error(0, " + wrong + ")", x.error(0, wrong), BAD);
            Due.due("error(9, " + wrong + ")", x.error(9, wrong), BAD);
        }
        for (int wrong : new int[] {-1, 2, 300, Integer.MIN_VALUE, Integer.MAX_VALUE}) {
            Due.due("error(" + wrong + ", 0)", x.error(wrong, 0), NONE);
        }
    }

    private static void recoverLimit() {
        Due.part("promise 34, limits");
        PredictiveGrammar x = new PredictiveGrammar();
        add(x, 0, 10);
        add(x, 0, 0);
        x.appendInput(881);
        Due.due("recover()", x.recover(), LIMIT);
        dueError(x, 0, 0, 2, 10);
        dueError(x, 1, 1, 2, 10);
        Due.due("error(2, 0)", x.error(2, 0), NONE);
        Due.due("the errors are steps, too", x.traceLength(), 298);
        Due.due("no report", x.failureLevels(), 0);
        x.clear();
        add(x, 0, 10, 1, 1, 1, 1);
        add(x, 0, 0);
        Due.due("recover()", x.recover(), LIMIT);
        Due.due("traceLength()", x.traceLength(), 15);
        Due.due("error(1, 0)", x.error(1, 0), 1);
        Due.due("error(2, 0)", x.error(2, 0), NONE);
    }

    private static void traceAndTree() {
        Due.part("promises 36 to 41");
        PredictiveGrammar x = new PredictiveGrammar();
        // 0 -> t0 1 2; 1 -> t1 1 | ; 2 -> t2 3; 3 ->
        add(x, 0, 0, 11, 12);
        add(x, 1, 1, 11);
        add(x, 1);
        add(x, 2, 2, 13);
        add(x, 3);
        x.appendInput(1223);
        Due.due("parse()", x.parse(), 10);
        int[] symbols = {10, 0, 11, 1, 11, 1, 11, 12, 2, 13};
        int[] parents = {-1, 0, 0, 2, 2, 4, 4, 0, 7, 7};
        int[] heights = {3, 0, 2, 0, 1, 0, 0, 1, 0, 0};
        int[] trace = {0, 1, 1, 2, 3, 4};
        Due.due("nodeCount()", x.nodeCount(), symbols.length);
        for (int node = 0; node < symbols.length; node++) {
            Due.due("nodeSymbol(" + node + ")", x.nodeSymbol(node), symbols[node]);
            Due.due("nodeParent(" + node + ")", x.nodeParent(node), parents[node]);
            Due.due("nodeHeight(" + node + ")", x.nodeHeight(node), heights[node]);
        }
        for (int wrong : new int[] {-1, symbols.length, 300, Integer.MIN_VALUE, Integer.MAX_VALUE}) {
            Due.due("nodeSymbol(" + wrong + ")", x.nodeSymbol(wrong), NONE);
            Due.due("nodeParent(" + wrong + ")", x.nodeParent(wrong), NONE);
            Due.due("nodeHeight(" + wrong + ")", x.nodeHeight(wrong), NONE);
        }
        Due.due("traceLength()", x.traceLength(), trace.length);
        for (int i = 0; i < trace.length; i++) {
            Due.due("trace(" + i + ")", x.trace(i), trace[i]);
        }
        for (int wrong : new int[] {-1, trace.length, 300, Integer.MIN_VALUE, Integer.MAX_VALUE}) {
            Due.due("trace(" + wrong + ")", x.trace(wrong), NONE);
        }
        x.removeProduction(0);
        Due.due("the number that it had then", x.trace(1), 1);
        Due.due("nodeHeight(2)", x.nodeHeight(2), 2);
        x.recover();
        Due.due("recover replaces the trace", x.traceLength(), 0);
        Due.due("recover empties the tree", x.nodeCount(), 0);
        x.undo();
        x.parse();
        Due.due("heights of an earlier tree do not stay", x.nodeHeight(4), 1);
        x.clearInput();
        x.appendInput(13);
        Due.due("parse()", x.parse(), 6);
        Due.due("nodeHeight(0)", x.nodeHeight(0), 2);
        Due.due("nodeHeight(2)", x.nodeHeight(2), 0);
    }

    private static void weights() {
        Due.part("promise 42");
        PredictiveGrammar x = new PredictiveGrammar();
        for (int wrong : WRONG) {
            Due.due("setWeight(" + wrong + ", 1)", x.setWeight(wrong, 1), BAD);
        }
        for (int wrong : new int[] {0, -1, 10, Integer.MIN_VALUE, Integer.MAX_VALUE}) {
            Due.due("setWeight(0, " + wrong + ")", x.setWeight(0, wrong), BAD);
        }
        for (int terminal = 0; terminal < 8; terminal++) {
            Due.due("setWeight(" + terminal + ", 9)", x.setWeight(terminal, 9), 1);
        }
        Due.due("setWeight(7, 1)", x.setWeight(7, 1), 9);
        Due.due("setWeight(7, 5)", x.setWeight(7, 5), 1);
        x.clear();
        x.clearInput();
        Due.due("setWeight(7, 5)", x.setWeight(7, 5), 5);
    }

    private static void repair() {
        Due.part("promises 43 and 44");
        PredictiveGrammar x = new PredictiveGrammar();
        Due.due("no string", x.repair(), NONE);
        // 0 -> 1 | 1 t7 0; 1 -> t0 t1 | t2 t3 | t4
        add(x, 0, 11);
        add(x, 0, 11, 7, 10);
        add(x, 1, 0, 1);
        add(x, 1, 2, 3);
        Due.due("the smallest string", x.repair(), 2);
        dueWord("the repaired input", x::repairedTerminal, "01");
        x.setWeight(0, 3);
        Due.due("the lightest of the shortest", x.repair(), 2);
        dueWord("the repaired input", x::repairedTerminal, "23");
        add(x, 1, 4);
        x.setWeight(4, 9);
        Due.due("the shortest", x.repair(), 1);
        dueWord("the repaired input", x::repairedTerminal, "4");
        x.appendInput(83);
        Due.due("t7 t2 is kept", x.repair(), 2);
        dueWord("the repaired input", x::repairedTerminal, "4723");
        x.appendInput(4);
        Due.due("t7 t2 t3", x.repair(), 1);
        dueWord("the repaired input", x::repairedTerminal, "4723");
        x.clearInput();
        x.appendInput(5);
        Due.due("nothing to insert", x.repair(), 0);
        dueWord("the repaired input", x::repairedTerminal, "4");
        x.appendInput(7);
        Due.due("t6 occurs nowhere", x.repair(), NONE);
        dueWord("the repaired input of before", x::repairedTerminal, "4");
        x.clearInput();
        x.appendInput(88888888);
        Due.due("eight terminals", x.repair(), 9);
        dueWord("the repaired input", x::repairedTerminal, "47474747474747474");
        x.appendInput(8);
        Due.due("nine terminals", x.repair(), LIMIT);
        x.clear();
        Due.due("LIMIT before NONE", x.repair(), LIMIT);
        dueWord("edits leave it", x::repairedTerminal, "47474747474747474");
        x.clearInput();
        add(x, 0);
        Due.due("the empty string", x.repair(), 0);
        dueWord("the repaired input", x::repairedTerminal, "");
        Due.due("no report", x.failureLevels(), 0);
        PredictiveGrammar forty = fortyGrammar();
        forty.appendInput(56888765);
        Due.due("not to be found", forty.repair(), NONE);
        forty.clearInput();
        forty.appendInput(14568876);
        Due.due("40 terminals", forty.repair(), 32);
        dueWord("the repaired input", forty::repairedTerminal, "01230123".repeat(4) + "45677654");
        PredictiveGrammar more = fortyGrammar(0);
        Due.due("41 terminals", more.repair(), NONE);
        // of two strings of one weight, the smaller one
        PredictiveGrammar y = new PredictiveGrammar();
        add(y, 0, 5, 0);
        add(y, 0, 0, 5);
        y.setWeight(5, 4);
        Due.due("repair()", y.repair(), 2);
        dueWord("the repaired input", y::repairedTerminal, "05");
        y.appendInput(61);
        Due.due("repair()", y.repair(), 0);
        dueWord("the repaired input", y::repairedTerminal, "50");
    }

    private static void failureReport() {
        Due.part("promises 45 to 47");
        PredictiveGrammar x = new PredictiveGrammar();
        dueReport(x);
        x.parse();
        dueReport(x, 1, 0, 3, 0, 5, 0);
        add(x, 0, 1);
        add(x, 0, 1);
        dueReport(x, 13, 0, 14, 0);
        add(x, 0, 10, 10);
        add(x, 8, 1);
        x.removeProduction(9);
        x.recover();
        x.repair();
        x.undo();
        x.clear();
        x.check();
        x.leftFactor(0);
        x.leftFactor(8);
        x.removeLeftRecursion(0);
        x.appendInput(9);
        dueReport(x, 13, 0, 14, 0);
        PredictiveGrammar y = new PredictiveGrammar();
        add(y, 1, 11, 2);
        Due.due("removeLeftRecursion(1)", y.removeLeftRecursion(1), FAILED);
        dueReport(y, 15, 1, 19, 1);
        y.parse();
        dueReport(y, 1, 0, 3, 0, 5, 0);
    }
}
