/** The boundary cases of conflicts, their examples, rewriting and undo, sentence by sentence: promises 20 to 28. */
public final class BoundaryConflictTest extends Calls {
    public static void main(String[] args) throws Exception {
        conflictsDescribed();
        examplesDescribed();
        nextTokenDescribed();
        exampleLimitsDescribed();
        conflictCount();
        conflictParts();
        examples();
        check();
        factoredPrefix();
        newNonterminal();
        factoredProductions();
        leftFactorRefused();
        recursionRemoved();
        removeLeftRecursionRefused();
        undo();
        Doc.end(20, 28);
    }

    private static void words(String words) throws Exception {
        Doc.sentence(Doc.DESCRIPTION, words);
    }

    private static void dueConflict(PredictiveGrammar x, int i, int nonterminal, int token, int p, int q) {
        Due.due("conflict(" + i + ", 0)", x.conflict(i, 0), nonterminal);
        Due.due("conflict(" + i + ", 1)", x.conflict(i, 1), token);
        Due.due("conflict(" + i + ", 2)", x.conflict(i, 2), p);
        Due.due("conflict(" + i + ", 3)", x.conflict(i, 3), q);
    }

    private static void dueExample(PredictiveGrammar x, int i, int which, String want) {
        String what = "example " + which + " of conflict " + i;
        Due.due("length of " + what, x.exampleLength(i, which), want.length());
        dueWord(what, k -> x.exampleTerminal(i, which, k), want);
    }

    private static void dueNoExample(PredictiveGrammar x, int i, int which) {
        Due.due("exampleLength(" + i + ", " + which + ")", x.exampleLength(i, which), NONE);
        dueWord("no example", k -> x.exampleTerminal(i, which, k), "");
    }

    private static void conflictsDescribed() throws Exception {
        words("A conflict consists of a nonterminal, a token and two productions p and q, p less than q, of this "
                + "nonterminal whose select sets both contain the token.");
        PredictiveGrammar x = new PredictiveGrammar();
        Due.due("of nothing", x.conflictCount(), 0);
        add(x, 1, 3);
        Due.due("of one production", x.conflictCount(), 0);
        add(x, 2, 3);
        Due.due("of another nonterminal's", x.conflictCount(), 0);
        add(x, 1, 4);
        Due.due("of another token", x.conflictCount(), 0);
        add(x, 1, 3, 3);
        Due.due("of two productions", x.conflictCount(), 1);
        dueConflict(x, 0, 1, 3, 0, 3);
        add(x, 1, 3, 4);
        Due.due("of three productions", x.conflictCount(), 3);
        x.clear();
        add(x, 0, 11);
        add(x, 0, 11, 7);
        add(x, 1, 3);
        add(x, 1, 4);
        add(x, 1);
        Due.due("of two tokens, and not of the end marker and t7", x.conflictCount(), 2);
        dueConflict(x, 0, 0, 3, 0, 1);
        dueConflict(x, 1, 0, 4, 0, 1);

        words("Conflicts are numbered from 0 in ascending order of the nonterminal, then the token, then p, then q.");
        x = new PredictiveGrammar();
        add(x, 7, 0);
        add(x, 7, 0, 0);
        add(x, 0, 7);
        add(x, 0, 7, 7);
        add(x, 0, 7, 7, 7);
        add(x, 0, 6);
        add(x, 0, 6, 6);
        Due.due("conflictCount()", x.conflictCount(), 5);
        dueConflict(x, 0, 0, 6, 5, 6);
        dueConflict(x, 1, 0, 7, 2, 3);
        dueConflict(x, 2, 0, 7, 2, 4);
        dueConflict(x, 3, 0, 7, 3, 4);
        dueConflict(x, 4, 7, 0, 0, 1);
    }

    private static void examplesDescribed() throws Exception {
        words("The example of one of the two productions is the shortest, and among those the lexicographically "
                + "smallest, string derived from nonterminal 0 with a leftmost derivation in which, at some step, the "
                + "nonterminal of the conflict is replaced according to this production while the next token is that of "
                + "the conflict.");
        PredictiveGrammar x = new PredictiveGrammar();
        add(x, 0, 7, 11);
        add(x, 0, 0, 0, 11);
        add(x, 1, 3);
        add(x, 1, 3, 3);
        Due.due("conflict(0, 0) is between t7 and t0 t0", x.conflict(0, 0), 1);
        dueExample(x, 0, 0, "73");
        dueExample(x, 0, 1, "733");
        add(x, 0, 6, 11);
        dueExample(x, 0, 0, "63");
        dueExample(x, 0, 1, "633");
        // the productions of nonterminal 0 itself
        x = new PredictiveGrammar();
        add(x, 0, 10, 1);
        add(x, 0, 0);
        dueExample(x, 0, 0, "01");
        dueExample(x, 0, 1, "0");
        // at some step: the first of two places is good for one production, the second for the other
        x = new PredictiveGrammar();
        add(x, 0, 11, 5, 11, 3);
        add(x, 1);
        add(x, 1, 3);
        Due.due("conflictCount()", x.conflictCount(), 1);
        dueExample(x, 0, 0, "53");
        dueExample(x, 0, 1, "353");
        // not derived from nonterminal 0, or nothing derived from what stands beside it
        x = new PredictiveGrammar();
        add(x, 1, 3);
        add(x, 1, 3, 3);
        dueNoExample(x, 0, 0);
        dueNoExample(x, 0, 1);
        add(x, 0, 11, 12);
        dueNoExample(x, 0, 0);
        add(x, 2);
        dueExample(x, 0, 0, "3");
        x.removeProduction(2);
        add(x, 0, 12, 11);
        dueExample(x, 0, 0, "3");
        x.removeProduction(2);
        dueNoExample(x, 0, 1);
        // one token's example after another one's, of one production after the next one's
        x = new PredictiveGrammar();
        add(x, 0, 12, 7);
        add(x, 0, 12, 6);
        add(x, 2, 7);
        add(x, 2, 0, 0, 4);
        dueConflict(x, 0, 0, 0, 0, 1);
        dueConflict(x, 1, 0, 7, 0, 1);
        dueExample(x, 1, 0, "77");
        dueExample(x, 0, 0, "0047");
        dueExample(x, 1, 1, "76");
        dueExample(x, 0, 1, "0046");
        x = new PredictiveGrammar();
        add(x, 0);
        add(x, 0, 11);
        add(x, 1);
        add(x, 1, 0);
        add(x, 0, 0, 5);
        dueConflict(x, 0, 0, 0, 1, 4);
        dueConflict(x, 1, 0, 8, 0, 1);
        dueExample(x, 1, 0, "");
        dueExample(x, 0, 0, "0");
        dueExample(x, 0, 1, "05");
        x = new PredictiveGrammar();
        add(x, 0);
        add(x, 0, 11, 12);
        add(x, 1);
        add(x, 1, 13);
        add(x, 2);
        add(x, 3);
        Due.due("conflictCount()", x.conflictCount(), 2);
        for (int i = 1; i >= 0; i--) {
            dueExample(x, i, 0, "");
            dueExample(x, i, 1, "");
        }
        // one production derives a string, the other does not
        x = new PredictiveGrammar();
        add(x, 0, 4, 11);
        add(x, 0, 4);
        dueNoExample(x, 0, 0);
        dueExample(x, 0, 1, "4");
    }

    private static void nextTokenDescribed() throws Exception {
        words("The next token is the first terminal of the string that is not yet produced to the left of the replaced "
                + "nonterminal, or the end marker if there is none.");
        // it comes from the nonterminal, or from the second one behind it
        PredictiveGrammar x = new PredictiveGrammar();
        add(x, 0, 6, 11, 12, 13);
        add(x, 1);
        add(x, 1, 4);
        add(x, 2);
        add(x, 2, 5);
        add(x, 3, 4);
        dueConflict(x, 0, 1, 4, 1, 2);
        dueExample(x, 0, 0, "64");
        dueExample(x, 0, 1, "644");
        // what is produced to the left is not the next token
        x = new PredictiveGrammar();
        add(x, 0, 4, 11);
        add(x, 0, 5, 11, 4, 4, 4);
        add(x, 1);
        add(x, 1, 4);
        dueConflict(x, 0, 1, 4, 2, 3);
        dueExample(x, 0, 0, "5444");
        dueExample(x, 0, 1, "44");
        // it stands behind, but not behind a right side of five symbols, whatever the next production is
        x = new PredictiveGrammar();
        add(x, 0, 6, 6, 6, 6, 11);
        add(x, 0, 5);
        add(x, 0, 7, 10, 5, 7, 7);
        add(x, 1, 5);
        add(x, 1);
        dueConflict(x, 0, 1, 5, 3, 4);
        dueExample(x, 0, 0, "66665");
        dueExample(x, 0, 1, "76666577");
        // what stood behind a right side does not once it is shorter
        for (int t = 0; t < 8; t += 7) {
            x = new PredictiveGrammar();
            for (int[] right : new int[][] {{6, 11, t}, {6, 11}}) {
                x.clear();
                add(x, 0, right);
                add(x, 0, 5, 5, 5, 11, t);
                add(x, 1);
                add(x, 1, t);
                dueConflict(x, 0, 1, t, 2, 3);
                dueExample(x, 0, 0, right.length == 3 ? "6" + t : "555" + t);
            }
        }
        // none: at the end of the string, with and without terminals before
        x = new PredictiveGrammar();
        add(x, 0, 11, 12);
        add(x, 2);
        add(x, 2, 6);
        add(x, 1);
        add(x, 1, 13);
        add(x, 3);
        Due.due("conflictCount()", x.conflictCount(), 2);
        dueConflict(x, 0, 1, 6, 3, 4);
        dueConflict(x, 1, 1, 8, 3, 4);
        dueExample(x, 0, 0, "6");
        dueExample(x, 0, 1, "6");
        dueExample(x, 1, 0, "");
        dueExample(x, 1, 1, "");
        x = new PredictiveGrammar();
        add(x, 0, 3, 11);
        add(x, 0, 11, 2);
        add(x, 1);
        add(x, 1, 12);
        add(x, 2);
        dueConflict(x, 1, 1, 8, 2, 3);
        dueExample(x, 0, 0, "2");
        dueExample(x, 1, 0, "3");
        dueExample(x, 1, 1, "3");
    }

    /** 0 derives 39 terminals and what 7 derives; the conflict is of 7. */
    private static PredictiveGrammar thirtyNine() {
        PredictiveGrammar x = new PredictiveGrammar();
        add(x, 0, 11, 11, 11, 11, 12);
        add(x, 1, 13, 13);
        add(x, 2, 13, 3, 2, 1, 17);
        add(x, 3, 0, 1, 2, 3);
        return x;
    }

    private static void exampleLimitsDescribed() throws Exception {
        words("The example does not exist if there is no such string with at most 40 terminals.");
        String head = "01230123".repeat(4) + "0123" + "321";
        PredictiveGrammar x = thirtyNine();
        add(x, 7, 6);
        add(x, 7, 6, 5);
        Due.due("conflict(0, 1)", x.conflict(0, 1), 6);
        dueExample(x, 0, 0, head + "6");
        dueNoExample(x, 0, 1);
        add(x, 7, 6, 16);
        add(x, 6);
        Due.due("conflictCount()", x.conflictCount(), 3);
        dueExample(x, 1, 1, head + "6");
        dueNoExample(x, 2, 0);
        // 24 productions of up to five symbols
        x = thirtyNine();
        add(x, 7, 16, 16, 16, 16, 6);
        add(x, 6, 7);
        for (int i = x.productionCount(); i < 22; i++) {
            add(x, 5, 17, 17, 17, i / 8, i % 8);
        }
        add(x, 6);
        add(x, 7, 16, 16, 16, 16, 5);
        Due.due("conflictCount()", x.conflictCount() > 0);
        int last = 0;
        while (x.conflict(last, 0) != 7 || x.conflict(last, 1) != 7) {
            last++;
        }
        dueConflict(x, last, 7, 7, 4, 23);
        dueNoExample(x, last, 0);
        dueNoExample(x, last, 1);
        x.removeProduction(0);
        add(x, 0, 17);
        last = 0;
        while (x.conflict(last, 0) != 7 || x.conflict(last, 1) != 7) {
            last++;
        }
        dueConflict(x, last, 7, 7, 3, 22);
        dueExample(x, last, 0, "76");
        dueExample(x, last, 1, "75");
        // at the end marker
        x = thirtyNine();
        add(x, 7, 6);
        add(x, 7, 6, 15);
        add(x, 7, 6, 5, 15);
        add(x, 5);
        add(x, 5, 16);
        add(x, 6);
        Due.due("conflict(3, 0)", x.conflict(3, 0), 7);
        dueConflict(x, 0, 5, 8, 7, 8);
        dueExample(x, 0, 0, head + "6");
        dueExample(x, 0, 1, head + "6");
        x.removeProduction(5);
        dueConflict(x, 0, 5, 8, 6, 7);
        dueNoExample(x, 0, 0);
        dueNoExample(x, 0, 1);
    }

    private static void conflictCount() throws Exception {
        Doc.sentence(20, "Returns the number of conflicts.");
        PredictiveGrammar x = new PredictiveGrammar();
        Due.due("of nothing", x.conflictCount(), 0);
        for (int i = 0; i < 5; i++) {
            add(x, 0, 7, i);
        }
        Due.due("of five productions", x.conflictCount(), 10);
        x.removeProduction(4);
        Due.due("of four productions", x.conflictCount(), 6);
        x.undo();
        Due.due("of five productions", x.conflictCount(), 10);
        x.clear();
        Due.due("of nothing", x.conflictCount(), 0);
        Due.due("of 24 productions of one token", mostOfOneToken().conflictCount(), 276);
        Due.due("of 23 productions at 8 terminals, 11 at the end marker", mostConflicts().conflictCount(), 8 * 253 + 55);
    }

    private static PredictiveGrammar mostOfOneToken() {
        PredictiveGrammar x = new PredictiveGrammar();
        for (int i = 0; i < 24; i++) {
            add(x, 7, 7, i % 8, i / 8);
        }
        return x;
    }

    /** Of the 23 productions of 0, eleven may vanish: so all of them may begin with what 0 is followed by. */
    private static PredictiveGrammar mostConflicts() {
        PredictiveGrammar x = new PredictiveGrammar();
        for (int i = 0; i < 12; i++) {
            add(x, 0, 10, i % 8, i / 8);
        }
        for (int t = 0; t < 6; t++) {
            int[] right = new int[t];
            java.util.Arrays.fill(right, 10);
            add(x, 0, right);
        }
        add(x, 0, 17);
        add(x, 0, 17, 17);
        add(x, 0, 17, 17, 17);
        add(x, 0, 17, 10);
        add(x, 0, 10, 17);
        add(x, 7);
        Due.due("productionCount()", x.productionCount(), 24);
        return x;
    }

    private static void conflictParts() throws Exception {
        PredictiveGrammar none = new PredictiveGrammar();
        PredictiveGrammar most = mostOfOneToken();
        Doc.sentence(21, "`what`: 0 for the nonterminal, 1 for the token, 2 for production p, 3 for production q");
        dueConflict(most, 0, 7, 7, 0, 1);
        dueConflict(most, 22, 7, 7, 0, 23);
        dueConflict(most, 23, 7, 7, 1, 2);
        dueConflict(most, 275, 7, 7, 22, 23);

        Doc.sentence(21, "Returns the part; BAD if there is no such conflict or what is out of range.");
        Due.due("of nothing", none.conflict(0, 0), BAD);
        for (int wrong : new int[] {-1, 276, Integer.MIN_VALUE, Integer.MAX_VALUE}) {
            Due.due("conflict(" + wrong + ", 0)", most.conflict(wrong, 0), BAD);
        }
        for (int wrong : new int[] {-1, 4, Integer.MIN_VALUE, Integer.MAX_VALUE}) {
            Due.due("conflict(0, " + wrong + ")", most.conflict(0, wrong), BAD);
        }

        Doc.sentence(22, "Returns 0 if the first sets of both right sides contain the token, 1 if only one of them does, 2 "
                + "if none does; BAD if there is no such conflict.");
        PredictiveGrammar x = new PredictiveGrammar();
        add(x, 0, 11, 0);
        add(x, 1, 12);
        add(x, 1, 0);
        add(x, 1, 13);
        add(x, 1);
        add(x, 2);
        add(x, 3);
        add(x, 3, 0, 0);
        // at t0, production 1 vanishes, 2 begins with it, 3 may do both, 4 vanishes
        int[][] kinds = {{1, 2, 1}, {1, 3, 1}, {1, 4, 2}, {2, 3, 0}, {2, 4, 1}, {3, 4, 1}};
        for (int i = 0; i < kinds.length; i++) {
            dueConflict(x, i, 1, 0, kinds[i][0], kinds[i][1]);
            Due.due("conflictKind(" + i + ")", x.conflictKind(i), kinds[i][2]);
        }
        Due.due("conflictCount(), that of 3 is one", x.conflictCount(), 7);
        Due.due("conflictKind(6)", x.conflictKind(6), 1);
        for (int wrong : new int[] {-1, 7, Integer.MIN_VALUE, Integer.MAX_VALUE}) {
            Due.due("conflictKind(" + wrong + ")", x.conflictKind(wrong), BAD);
        }
        Due.due("conflictKind(0) of nothing", none.conflictKind(0), BAD);
    }

    private static void examples() throws Exception {
        // conflict 0 is of nonterminal 0, its productions have 1 and no string; conflict 1 at the end marker
        PredictiveGrammar x = new PredictiveGrammar();
        add(x, 0, 4);
        add(x, 0, 4, 17);
        add(x, 0);
        add(x, 0, 16);
        add(x, 6);
        Due.due("conflictCount()", x.conflictCount(), 2);
        int[] wrongConflicts = {-1, 2, Integer.MIN_VALUE, Integer.MAX_VALUE};
        int[] wrongSides = {-1, 2, Integer.MIN_VALUE, Integer.MAX_VALUE};
        for (int promise = 23; promise <= 24; promise++) {
            Doc.sentence(promise, "`which`: 0 for the example of production p, 1 for that of production q");
            dueExample(x, 0, 0, "4");
            dueNoExample(x, 0, 1);
        }
        Doc.sentence(23, "Returns the number of terminals; BAD if an argument is out of range; NONE if the example does not "
                + "exist.");
        Due.due("exampleLength(0, 0)", x.exampleLength(0, 0), 1);
        Due.due("exampleLength(0, 1)", x.exampleLength(0, 1), NONE);
        Due.due("exampleLength(1, 0)", x.exampleLength(1, 0), 0);
        Due.due("exampleLength(1, 1)", x.exampleLength(1, 1), 0);
        for (int wrong : wrongConflicts) {
            Due.due("exampleLength(" + wrong + ", 0)", x.exampleLength(wrong, 0), BAD);
        }
        for (int wrong : wrongSides) {
            Due.due("exampleLength(0, " + wrong + ")", x.exampleLength(0, wrong), BAD);
        }
        Due.due("of nothing", new PredictiveGrammar().exampleLength(0, 0), BAD);

        Doc.sentence(24, "Returns the terminal; BAD if i or which is out of range; NONE if the example does not exist or has "
                + "no such position.");
        Due.due("exampleTerminal(0, 0, 0)", x.exampleTerminal(0, 0, 0), 4);
        for (int k : new int[] {-1, 1, 40, Integer.MIN_VALUE, Integer.MAX_VALUE}) {
            Due.due("exampleTerminal(0, 0, " + k + ")", x.exampleTerminal(0, 0, k), NONE);
            Due.due("exampleTerminal(0, 1, " + k + ")", x.exampleTerminal(0, 1, k), NONE);
            Due.due("exampleTerminal(1, 0, " + k + ")", x.exampleTerminal(1, 0, k), NONE);
            Due.due("exampleTerminal(2, 0, " + k + ")", x.exampleTerminal(2, 0, k), BAD);
            Due.due("exampleTerminal(0, 2, " + k + ")", x.exampleTerminal(0, 2, k), BAD);
        }
        for (int wrong : wrongConflicts) {
            Due.due("exampleTerminal(" + wrong + ", 0, 0)", x.exampleTerminal(wrong, 0, 0), BAD);
        }
        for (int wrong : wrongSides) {
            Due.due("exampleTerminal(0, " + wrong + ", 0)", x.exampleTerminal(0, wrong, 0), BAD);
        }
        Due.due("of nothing", new PredictiveGrammar().exampleTerminal(0, 0, 0), BAD);
    }

    private static void check() throws Exception {
        Doc.sentence(25, "Returns 0 if there are none; FAILED otherwise, which leaves a failure report.");
        PredictiveGrammar x = new PredictiveGrammar();
        Due.due("of nothing", x.check(), 0);
        dueReport(x);
        add(x, 7, 5);
        add(x, 6, 5);
        Due.due("of no conflict", x.check(), 0);
        dueReport(x);
        add(x, 7, 5, 5);
        Due.due("of one conflict", x.check(), FAILED);
        dueReport(x, 8, 1, 9, 7, 10, 5);
        x.removeProduction(2);
        Due.due("of none again", x.check(), 0);
        dueReport(x, 8, 1, 9, 7, 10, 5);
    }

    private static void factoredPrefix() throws Exception {
        Doc.sentence(26, "The common prefix of two productions is the longest sequence with which both right sides begin.");
        PredictiveGrammar x = new PredictiveGrammar();
        add(x, 0, 1, 2, 3, 4, 5);
        add(x, 0, 1, 2, 3, 4);
        add(x, 0);
        Due.due("the whole of one, and never all five symbols", x.leftFactor(0), 1);
        dueProduction(x, 0, 0, 1, 2, 3, 4, 11);
        dueProduction(x, 1, 0);
        dueProduction(x, 2, 1, 5);
        dueProduction(x, 3, 1);
        Due.due("an empty one begins with nothing", x.leftFactor(0), NONE);
        x = new PredictiveGrammar();
        add(x, 0, 1);
        add(x, 0, 1, 0);
        Due.due("t1, and nothing instead of t0", x.leftFactor(0), 1);
        dueProduction(x, 0, 0, 1, 11);
        dueProduction(x, 1, 1);
        dueProduction(x, 2, 1, 0);

        Doc.sentence(26, "Of all common prefixes of two productions of n, the longest one is taken, and among several of "
                + "this length, that with which the lowest production begins.");
        x = new PredictiveGrammar();
        add(x, 0, 7);
        add(x, 0, 7, 1);
        add(x, 0, 7, 2);
        add(x, 0, 6, 5, 1);
        add(x, 0, 4, 3, 1);
        add(x, 0, 4, 3, 2);
        add(x, 0, 6, 5, 2);
        add(x, 1, 4, 3, 1, 1);
        add(x, 1, 4, 3, 1);
        Due.due("t6 t5, with which the lowest begins", x.leftFactor(0), 2);
        dueProduction(x, 3, 0, 6, 5, 12);
        Due.due("t4 t3", x.leftFactor(0), 3);
        dueProduction(x, 4, 0, 4, 3, 13);
        Due.due("t7", x.leftFactor(0), 4);
        dueProduction(x, 0, 0, 7, 14);
        Due.due("nothing", x.leftFactor(0), NONE);
        Due.due("productions of another", x.leftSide(4), 1);
    }

    private static void newNonterminal() throws Exception {
        Doc.sentence(26, "The new nonterminal is the lowest one, except 0 and n, that occurs in no production, on neither "
                + "side.");
        PredictiveGrammar x = new PredictiveGrammar();
        add(x, 1, 0);
        add(x, 1, 0, 0);
        Due.due("not 0, not n", x.leftFactor(1), 2);
        x = new PredictiveGrammar();
        add(x, 1, 2, 2, 2, 2, 12);
        add(x, 3);
        add(x, 5, 4, 14);
        add(x, 5, 4, 16);
        Due.due("on the left, at the end, in what is removed", x.leftFactor(5), 7);
        x = new PredictiveGrammar();
        add(x, 7, 2);
        add(x, 7, 2, 2);
        add(x, 0, 12, 13, 14, 15, 16);
        Due.due("the lowest is left alone", x.leftFactor(7), 1);
        x.undo();
        x.removeProduction(2);
        Due.due("what is removed is free again", x.leftFactor(7), 1);
    }

    private static void factoredProductions() throws Exception {
        Doc.sentence(26, "The lowest production of n that begins with the prefix is replaced by one whose right side is the "
                + "prefix followed by the new nonterminal; the other productions of n that begin with the prefix are "
                + "removed.");
        PredictiveGrammar x = new PredictiveGrammar();
        add(x, 1, 2, 3);
        add(x, 0, 2);
        add(x, 0, 2, 17);
        add(x, 0, 3);
        add(x, 0, 2, 5);
        add(x, 0, 2, 17, 6);
        Due.due("leftFactor(0)", x.leftFactor(0), 2);
        Due.due("productionCount()", x.productionCount(), 7);
        dueProduction(x, 0, 1, 2, 3);
        dueProduction(x, 1, 0, 2);
        dueProduction(x, 2, 0, 2, 17, 12);
        dueProduction(x, 3, 0, 3);
        dueProduction(x, 4, 0, 2, 5);
        Due.due("leftFactor(0)", x.leftFactor(0), 3);
        Due.due("productionCount()", x.productionCount(), 8);
        dueProduction(x, 0, 1, 2, 3);
        dueProduction(x, 1, 0, 2, 13);
        dueProduction(x, 2, 0, 3);

        Doc.sentence(26, "Then, for each of all these productions in ascending order, a production is appended whose left "
                + "side is the new nonterminal and whose right side is what follows the prefix.");
        dueProduction(x, 3, 2);
        dueProduction(x, 4, 2, 6);
        dueProduction(x, 5, 3);
        dueProduction(x, 6, 3, 17, 12);
        dueProduction(x, 7, 3, 5);
        Due.due("productionCount()", x.productionCount(), 8);
        Due.due("selectSet(7), as after every edit", x.selectSet(7), 32);
        Due.due("tableEntry(3, 8)", x.tableEntry(3, 8), 5);
        Due.due("conflictCount()", x.conflictCount(), 0);
        Due.due("changedNonterminals(), the new one", x.changedNonterminals(), 1);
        x = new PredictiveGrammar();
        manyEdits(x, 1);
        Due.due("leftFactor(0)", x.leftFactor(0), 1);
        Due.due("nothing of a production that was removed", x.productionCount(), 3);
    }

    /** Leaves two productions of 0 that begin with the symbol, after many edits that had a third one. */
    private static void manyEdits(PredictiveGrammar x, int symbol) {
        add(x, 0, symbol, 2);
        add(x, 0, symbol == 10 ? 3 : symbol, 3);
        add(x, 0, symbol, 4);
        for (int i = 0; i < 10; i++) {
            add(x, 0, symbol, 5);
            x.removeProduction(3);
        }
        x.removeProduction(2);
    }

    private static void leftFactorRefused() throws Exception {
        Doc.sentence(26, "Returns the new nonterminal; BAD if n is out of range; NONE if no two productions of n have a "
                + "common prefix of at least one symbol; FULL if there is no new nonterminal, or there would be more than "
                + "24 productions afterwards (checked in this order), which leaves a failure report.");
        PredictiveGrammar x = new PredictiveGrammar();
        for (int wrong : WRONG) {
            Due.due("leftFactor(" + wrong + ")", x.leftFactor(wrong), BAD);
        }
        Due.due("of no productions", x.leftFactor(7), NONE);
        add(x, 7);
        add(x, 7, 1);
        add(x, 7, 2, 1);
        add(x, 6, 1, 2);
        Due.due("of no common prefix", x.leftFactor(7), NONE);
        dueReport(x);
        add(x, 7, 1, 2);
        Due.due("of one symbol", x.leftFactor(7), 1);
        dueReport(x);

        x = new PredictiveGrammar();
        add(x, 6, 1);
        add(x, 6, 1, 2);
        add(x, 0, 11, 12, 13, 14, 15);
        Due.due("7 is left", x.leftFactor(6), 7);
        x.undo();
        add(x, 7);
        Due.due("none is left", x.leftFactor(6), FULL);
        dueReport(x, 15, 6, 16, 0);
        for (int i = x.productionCount(); i < 24; i++) {
            add(x, 7, i / 8, i % 8);
        }
        Due.due("neither a nonterminal nor a number", x.leftFactor(6), FULL);
        dueReport(x, 15, 6, 16, 0);

        x = fullGrammar(0);
        Due.due("25 productions", x.leftFactor(0), FULL);
        dueReport(x, 15, 0, 17, 25);
        x.removeProduction(23);
        Due.due("24 productions", x.leftFactor(0), 1);
        Due.due("productionCount()", x.productionCount(), 24);
    }

    private static void recursionRemoved() throws Exception {
        Doc.sentence(27, "The recursive productions are those of n whose right side begins with n.");
        PredictiveGrammar x = new PredictiveGrammar();
        add(x, 1, 3, 11);
        add(x, 2, 11, 3);
        add(x, 3);
        add(x, 1, 13, 11);
        add(x, 1);
        Due.due("n in another place, or of another, or behind what vanishes", x.removeLeftRecursion(1), NONE);
        add(x, 1, 11, 11);
        Due.due("n at the start", x.removeLeftRecursion(1), 4);

        Doc.sentence(27, "In each other production of n, the new nonterminal is appended to the right side.");
        dueProduction(x, 0, 1, 3, 11, 14);
        dueProduction(x, 1, 2, 11, 3);
        dueProduction(x, 3, 1, 13, 11, 14);
        dueProduction(x, 4, 1, 14);
        x = new PredictiveGrammar();
        add(x, 0, 10, 1, 2, 3, 4);
        add(x, 0, 4, 3, 2, 1);
        add(x, 0, 10, 10);
        Due.due("removeLeftRecursion(0)", x.removeLeftRecursion(0), 1);
        dueProduction(x, 0, 0, 4, 3, 2, 1, 11);

        Doc.sentence(27, "The recursive productions are removed.");
        Due.due("one of three, and two of 1", x.productionCount(), 4);
        for (int p = 0; p < 4; p++) {
            Due.due("production " + p + " is not recursive", x.rightSymbol(p, 0) != 10 + x.leftSide(p));
        }

        Doc.sentence(27, "Then, for each recursive production in ascending order, a production is appended whose left side "
                + "is the new nonterminal and whose right side is what follows n, followed by the new nonterminal.");
        dueProduction(x, 1, 1, 1, 2, 3, 4, 11);
        dueProduction(x, 2, 1, 10, 11);

        Doc.sentence(27, "Finally, a production of the new nonterminal with an empty right side is appended.");
        dueProduction(x, 3, 1);
        Due.due("productionCount()", x.productionCount(), 4);
        Due.due("selectSet(3), as after every edit", x.selectSet(3), 2 | 16 | 256);
        Due.due("tableEntry(1, 8)", x.tableEntry(1, 8), 3);
        x = new PredictiveGrammar();
        manyEdits(x, 10);
        Due.due("removeLeftRecursion(0)", x.removeLeftRecursion(0), 1);
        Due.due("nothing of a production that was removed", x.productionCount(), 3);
        dueProduction(x, 2, 1);

        Doc.sentence(27, "The new nonterminal is found as for leftFactor.");
        x = new PredictiveGrammar();
        add(x, 1, 11, 12);
        add(x, 3);
        add(x, 1, 4);
        Due.due("not 0, not n, none that occurs", x.removeLeftRecursion(1), 4);
    }

    private static void removeLeftRecursionRefused() throws Exception {
        Doc.sentence(27, "BAD if n is out of range; NONE if there are no recursive productions;");
        PredictiveGrammar x = new PredictiveGrammar();
        for (int wrong : WRONG) {
            Due.due("removeLeftRecursion(" + wrong + ")", x.removeLeftRecursion(wrong), BAD);
        }
        Due.due("of no productions", x.removeLeftRecursion(7), NONE);
        add(x, 7, 1, 1, 1, 1, 1);
        add(x, 7);
        Due.due("of none that is recursive", x.removeLeftRecursion(7), NONE);
        dueReport(x);

        Doc.sentence(27, "FAILED if a recursive production consists of n alone (code 18 and its number), if all productions "
                + "of n are recursive (code 19), or if other productions of n have 5 symbols in the right side (code 20 "
                + "and the number of the lowest of them);");
        x = new PredictiveGrammar();
        add(x, 7, 17);
        Due.due("n alone is the only one", x.removeLeftRecursion(7), FAILED);
        dueReport(x, 15, 7, 18, 0);
        add(x, 0, 1, 2, 3, 4, 5);
        add(x, 7, 1, 2, 3, 4, 5);
        add(x, 7, 2, 2, 3, 4, 5);
        Due.due("n alone comes first", x.removeLeftRecursion(7), FAILED);
        dueReport(x, 15, 7, 18, 0);
        x.removeProduction(0);
        add(x, 7, 17, 1, 2, 3, 4);
        Due.due("others of five symbols", x.removeLeftRecursion(7), FAILED);
        dueReport(x, 15, 7, 20, 1);
        x.removeProduction(1);
        Due.due("the other one of five symbols", x.removeLeftRecursion(7), FAILED);
        dueReport(x, 15, 7, 20, 1);
        x.removeProduction(1);
        Due.due("all are recursive", x.removeLeftRecursion(7), FAILED);
        dueReport(x, 15, 7, 19, 1);
        add(x, 7, 17, 1);
        Due.due("all two are recursive", x.removeLeftRecursion(7), FAILED);
        dueReport(x, 15, 7, 19, 2);
        add(x, 7, 1, 1, 1, 1);
        Due.due("another one of four symbols", x.removeLeftRecursion(7), 1);
        dueReport(x, 15, 7, 19, 2);

        Doc.sentence(27, "FULL as for leftFactor; FAILED and FULL leave a failure report.");
        x = new PredictiveGrammar();
        add(x, 6, 16, 2);
        add(x, 6, 2, 2, 2, 2, 2);
        add(x, 0, 11, 12, 13, 14, 15);
        add(x, 7);
        Due.due("FAILED comes first", x.removeLeftRecursion(6), FAILED);
        dueReport(x, 15, 6, 20, 1);
        x.removeProduction(1);
        add(x, 6);
        Due.due("no nonterminal is left", x.removeLeftRecursion(6), FULL);
        dueReport(x, 15, 6, 16, 0);
        for (int i = x.productionCount(); i < 24; i++) {
            add(x, 0, i / 8, i % 8);
        }
        Due.due("neither a nonterminal nor a number", x.removeLeftRecursion(6), FULL);
        dueReport(x, 15, 6, 16, 0);
        x.removeProduction(2);
        add(x, 0);
        Due.due("25 productions", x.removeLeftRecursion(6), FULL);
        dueReport(x, 15, 6, 17, 25);
        x.removeProduction(23);
        Due.due("24 productions", x.removeLeftRecursion(6), 7);
        Due.due("productionCount()", x.productionCount(), 24);
    }

    private static void undo() throws Exception {
        Doc.sentence(28, "Reverts the latest edit that was not yet reverted: the productions become those before that edit.");
        PredictiveGrammar x = new PredictiveGrammar();
        add(x, 0, 10, 1);
        add(x, 0, 2);
        add(x, 0, 2, 2);
        x.removeProduction(0);
        x.undo();
        Due.due("the removed one is back", x.productionCount(), 3);
        dueProduction(x, 0, 0, 10, 1);
        dueProduction(x, 2, 0, 2, 2);
        x.undo();
        Due.due("the one before that is reverted", x.productionCount(), 2);
        dueProduction(x, 1, 0, 2);
        Due.due("what follows from the productions", x.selectSet(1), 4);
        Due.due("the table", x.tableEntry(0, 2), 0);
        Due.due("the conflicts", x.conflictCount(), 1);
        dueExample(x, 0, 0, "21");
        x = fullGrammar(0);
        x.clear();
        x.undo();
        Due.due("all 24 are back", x.productionCount(), 24);
        dueProduction(x, 23, 0, 7, 2);

        Doc.sentence(28, "Returns the number of edits that can still be reverted; NONE if there is none.");
        x = new PredictiveGrammar();
        Due.due("of a new object", x.undo(), NONE);
        x.clear();
        Due.due("of one edit", x.undo(), 0);
        Due.due("of none", x.undo(), NONE);
        Due.due("of none", x.undo(), NONE);
        for (int i = 0; i < 10; i++) {
            x.clear();
        }
        Due.due("of ten edits", x.undo(), 9);
        x.clear();
        Due.due("of ten edits", x.undo(), 9);
        x.clear();
        x.clear();
        Due.due("of eleven edits", x.undo(), 9);
        for (int left = 8; left >= 0; left--) {
            Due.due("of the rest", x.undo(), left);
        }
        Due.due("of none", x.undo(), NONE);
    }
}
