/** What the tests share: grammars in few words, wrong arguments, and comparisons of more than one answer. */
abstract class Calls {
    static final int BAD = -1, NONE = -2, FULL = -3, DUPLICATE = -4, FAILED = -5, LIMIT = -6;
    /** Neither nonterminals nor terminals: just outside, as symbols would be written, and far off. */
    static final int[] WRONG = {-1, 8, 9, 10, 17, -2, Integer.MIN_VALUE, Integer.MAX_VALUE};

    /** Adds a production and returns what addProduction answers; what is not given is -1. */
    static int add(PredictiveGrammar x, int left, int... right) {
        int[] s = {-1, -1, -1, -1, -1};
        System.arraycopy(right, 0, s, 0, right.length);
        return x.addProduction(left, s[0], s[1], s[2], s[3], s[4]);
    }

    static void dueProduction(PredictiveGrammar x, int p, int left, int... right) {
        Due.due("leftSide(" + p + ")", x.leftSide(p), left);
        Due.due("rightLength(" + p + ")", x.rightLength(p), right.length);
        for (int i = 0; i < right.length; i++) {
            Due.due("rightSymbol(" + p + ", " + i + ")", x.rightSymbol(p, i), right[i]);
        }
        Due.due("rightSymbol at the end", x.rightSymbol(p, right.length), BAD);
    }

    static void dueReport(PredictiveGrammar x, int... codesAndDetails) {
        int levels = codesAndDetails.length / 2;
        Due.due("failureLevels()", x.failureLevels(), levels);
        for (int level = 0; level < levels; level++) {
            Due.due("failureCode(" + level + ")", x.failureCode(level), codesAndDetails[2 * level]);
            Due.due("failureDetail(" + level + ")", x.failureDetail(level), codesAndDetails[2 * level + 1]);
        }
        for (int level : new int[] {-1, levels, Integer.MIN_VALUE, Integer.MAX_VALUE}) {
            Due.due("failureCode(" + level + ")", x.failureCode(level), NONE);
            Due.due("failureDetail(" + level + ")", x.failureDetail(level), NONE);
        }
    }

    interface Word {
        int terminal(int k);
    }

    static void dueWord(String what, Word word, String want) {
        for (int k = 0; k < want.length(); k++) {
            Due.due(what + " at " + k, word.terminal(k), want.charAt(k) - '0');
        }
        for (int k : new int[] {want.length(), -1, 40, 41, Integer.MIN_VALUE, Integer.MAX_VALUE}) {
            Due.due(what + " at " + k, word.terminal(k), NONE);
        }
    }

    static void dueError(PredictiveGrammar x, int i, int index, int kind, int top) {
        Due.due("error(" + i + ", 0)", x.error(i, 0), index);
        Due.due("error(" + i + ", 1)", x.error(i, 1), kind);
        Due.due("error(" + i + ", 2)", x.error(i, 2), top);
    }

    /** The trace is due to be these productions, and no more. */
    static void dueTrace(PredictiveGrammar x, int... productions) {
        Due.due("traceLength()", x.traceLength(), productions.length);
        for (int i = 0; i < productions.length; i++) {
            Due.due("trace(" + i + ")", x.trace(i), productions[i]);
        }
        Due.due("trace at the end", x.trace(productions.length), NONE);
    }

    /** All that can be read without a change, but the failure report. */
    static String state(PredictiveGrammar x) {
        StringBuilder all = new StringBuilder();
        for (int p = 0; p < x.productionCount(); p++) {
            all.append(x.leftSide(p)).append(':');
            for (int i = 0; i < x.rightLength(p); i++) {
                all.append(' ').append(x.rightSymbol(p, i));
            }
            all.append(" on ").append(x.selectSet(p)).append('\n');
        }
        for (int n = 0; n < 8; n++) {
            all.append(x.nullable(n)).append(' ').append(x.firstSet(n)).append(' ').append(x.followSet(n)).append('\n');
        }
        all.append(x.changedNonterminals()).append(' ').append(x.conflictCount()).append('\n');
        list(all, x::inputTerminal);
        list(all, x::repairedTerminal);
        list(all, x::trace);
        list(all, x::nodeSymbol);
        list(all, k -> x.error(k, 0));
        list(all, k -> x.error(k, 1));
        return all.toString();
    }

    private static void list(StringBuilder all, Word word) {
        for (int k = 0; word.terminal(k) != NONE; k++) {
            all.append(word.terminal(k)).append(' ');
        }
        all.append('\n');
    }

    /** 24 productions: two terminals in a row, all of one left side. */
    static PredictiveGrammar fullGrammar(int left) {
        PredictiveGrammar x = new PredictiveGrammar();
        for (int i = 0; i < 24; i++) {
            Due.due("production " + i, add(x, left, i % 8, i / 8), i);
        }
        return x;
    }

    /** 0 derives one string: five times eight terminals, and more of them as given. */
    static PredictiveGrammar fortyGrammar(int... more) {
        PredictiveGrammar x = new PredictiveGrammar();
        add(x, 0, 11, 11, 11, 11, 12);
        add(x, 1, 13, 13);
        add(x, 2, 14, 15);
        add(x, 3, 0, 1, 2, 3);
        add(x, 4, 4, 5, 6, 7);
        int[] last = {7, 6, 5, 4, 0};
        System.arraycopy(more, 0, last, 4, more.length);
        add(x, 5, java.util.Arrays.copyOf(last, 4 + more.length));
        return x;
    }

    /** Each t0 leaves three symbols more on the stack; after 19 of them there are 58, and t2 puts the last ones. */
    static PredictiveGrammar stackGrammar(int... last) {
        PredictiveGrammar x = new PredictiveGrammar();
        add(x, 0, 0, 10, 1, 1, 1);
        add(x, 0, last);
        x.appendInput(111111111);
        x.appendInput(1111111111);
        x.appendInput(333);
        return x;
    }

    /**
     * Each of 38 t0 takes 7 steps, t1 then 2, and 3 behind it vanishes in 31: that makes 299, and one more
     * for each 2 that stands behind. As 6 tells, all that vanishes may do so before t7, too.
     */
    static PredictiveGrammar stepsGrammar(int... last) {
        PredictiveGrammar x = new PredictiveGrammar();
        add(x, 0, 0, 11, 10);
        add(x, 0, last);
        add(x, 1, 12, 12, 12, 12);
        add(x, 2);
        add(x, 3, 14, 14, 14, 14, 14);
        add(x, 4, 15, 15, 15, 15, 15);
        add(x, 5);
        add(x, 6, 13, 12, 7);
        for (int i = 0; i < 38; i++) {
            x.appendInput(1);
        }
        x.appendInput(2);
        return x;
    }
}
