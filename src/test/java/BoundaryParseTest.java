/**
 * The boundary cases of parsing, recovery, repair and the failure report, sentence by sentence: what the description
 * says of them, and promises 29 to 47.
 */
public final class BoundaryParseTest extends Calls {
    public static void main(String[] args) throws Exception {
        parserDescribed();
        stepLimitDescribed();
        stackLimitDescribed();
        errorStepsDescribed();
        errorKindsDescribed();
        reportsDescribed();
        parseReportsDescribed();
        noEntryReportsDescribed();
        otherReportsDescribed();
        setSynchronizing();
        input();
        parse();
        recover();
        recoverStopped();
        errors();
        trace();
        treeDescribed();
        treeNodes();
        setWeight();
        leastInsertions();
        repairLimits();
        repairedTerminal();
        failureReport();
        Doc.end(29, 47);
    }

    private static void words(String words) throws Exception {
        Doc.sentence(Doc.DESCRIPTION, words);
    }

    /** Appends terminals, each given by its number. */
    private static void append(PredictiveGrammar x, String terminals) {
        for (char c : terminals.toCharArray()) {
            x.appendInput(c - '0' + 1);
        }
    }

    private static void setInput(PredictiveGrammar x, String terminals) {
        x.clearInput();
        append(x, terminals);
    }

    /** 0 -> t0 1 t1; 1 -> t2. */
    private static PredictiveGrammar between(String input) {
        PredictiveGrammar x = new PredictiveGrammar();
        add(x, 0, 0, 11, 1);
        add(x, 1, 2);
        append(x, input);
        return x;
    }

    private static void parserDescribed() throws Exception {
        words("The input has at most 40 terminals, initially none, and is followed by the end marker.");
        PredictiveGrammar x = new PredictiveGrammar();
        Due.due("clearInput()", x.clearInput(), 0);
        add(x, 0, 0, 10);
        add(x, 0);
        Due.due("parse() of none", x.parse(), 1);
        append(x, "0".repeat(40));
        Due.due("inputTerminal(39)", x.inputTerminal(39), 0);
        Due.due("a 41st", x.appendInput(1), FULL);
        Due.due("parse() of 40", x.parse(), 81);
        Due.due("the end marker behind them", x.trace(40), 1);

        words("The parser has a stack of symbols; initially it contains only the nonterminal 0.");
        x = new PredictiveGrammar();
        add(x, 1, 0);
        add(x, 0);
        Due.due("parse()", x.parse(), 1);
        dueTrace(x, 1);

        words("One step depends on the top symbol and the current token, which is initially the first one.");
        x = new PredictiveGrammar();
        add(x, 0, 1, 0);
        add(x, 0, 0, 1);
        append(x, "01");
        Due.due("parse()", x.parse(), 3);
        dueTrace(x, 1);

        words("A nonterminal with a table entry for the token is replaced by the right side of this production, whose first "
                + "symbol becomes the top symbol.");
        x = new PredictiveGrammar();
        add(x, 0, 11, 1, 2, 3, 4);
        add(x, 1);
        add(x, 0, 1, 2, 3);
        append(x, "1234");
        Due.due("five symbols, and none, and the lowest production", x.parse(), 6);
        dueTrace(x, 0, 1);

        words("A terminal that equals the token is removed, and the next token becomes the current one.");
        x = new PredictiveGrammar();
        add(x, 0, 0, 7, 0);
        append(x, "070");
        Due.due("parse()", x.parse(), 4);
        setInput(x, "07");
        Due.due("the end marker equals none", x.parse(), FAILED);

        words("The parser accepts if the stack is empty and the current token is the end marker.");
        x = new PredictiveGrammar();
        add(x, 0, 0, 11);
        add(x, 1);
        append(x, "0");
        Due.due("both", x.parse(), 3);
        append(x, "0");
        Due.due("the current token is not the end marker", x.parse(), FAILED);
        x.clearInput();
        Due.due("the stack is not empty", x.parse(), FAILED);
    }

    private static void stepLimitDescribed() throws Exception {
        words("The parser stops with LIMIT if a step would be the 301st one, where to accept and to fail is no step,");
        Due.due("299 steps", stepsGrammar(1, 13).parse(), 299);
        PredictiveGrammar x = stepsGrammar(1, 13, 12);
        Due.due("300 steps, then it accepts", x.parse(), 300);
        Due.due("300 steps, then it accepts", x.recover(), 0);
        x.appendInput(8);
        Due.due("300 steps, then it fails", x.parse(), FAILED);
        Due.due("the error would be the 301st step", x.recover(), LIMIT);
        x = stepsGrammar(1, 13, 12, 12);
        Due.due("a replacement would be the 301st step", x.parse(), LIMIT);
        Due.due("a replacement would be the 301st step", x.recover(), LIMIT);
        Due.due("traceLength()", x.traceLength(), 300 - 39);
        x = stepsGrammar(1, 13, 7);
        append(x, "7");
        Due.due("t7 is removed by the 300th step", x.parse(), 300);
        Due.due("t7 is removed by the 300th step", x.recover(), 0);
        x = stepsGrammar(1, 13, 12, 7);
        append(x, "7");
        Due.due("to remove t7 would be the 301st step", x.parse(), LIMIT);
        dueReport(x, 1, 39, 7, 300);
        Due.due("to remove t7 would be the 301st step", x.recover(), LIMIT);
    }

    private static void stackLimitDescribed() throws Exception {
        words("or if the stack contains more than 60 symbols after a step, which counts.");
        PredictiveGrammar x = stackGrammar(2, 2, 2);
        Due.due("60 symbols are parsed", x.parse(), FAILED);
        dueReport(x, 1, 22, 2, 1);
        Due.due("60 symbols are recovered from", x.recover(), 57);
        x = stackGrammar(2, 2, 2, 2);
        Due.due("61 symbols", x.parse(), LIMIT);
        dueReport(x, 1, 19, 7, 39);
        Due.due("that production is in the trace", x.trace(19), 1);
        Due.due("61 symbols", x.recover(), LIMIT);
        Due.due("that production is in the trace", x.trace(19), 1);
        Due.due("traceLength()", x.traceLength(), 20);
        // the 19th step leaves 60 symbols, the 20th 61
        x = stackGrammar(2);
        x.removeProduction(0);
        x.removeProduction(0);
        add(x, 0, 11, 11, 11, 11);
        add(x, 1, 12, 12, 12, 12, 12);
        add(x, 2, 13, 13, 13, 13, 13);
        add(x, 3, 10, 0);
        add(x, 3, 0);
        Due.due("4 symbols, 8, 12, 13, 16, 20, .. 52, 56, 60, 61", x.parse(), LIMIT);
        dueReport(x, 1, 0, 7, 20);
    }

    private static void errorStepsDescribed() throws Exception {
        words("In every other situation, parse fails, and recover continues as follows; this is a step, too, and an error.");
        // 299 steps and the error: the 300th step
        PredictiveGrammar x = stepsGrammar(1, 7, 13);
        Due.due("parse fails at t7", x.parse(), FAILED);
        Due.due("kind 0 and 299 steps", x.recover(), 1);
        dueError(x, 0, 39, 0, 7);
        x = stepsGrammar(1, 7, 13, 12);
        Due.due("kind 0 and 300 steps", x.recover(), LIMIT);
        dueError(x, 0, 39, 0, 7);
        x = stepsGrammar(1, 17, 13);
        Due.due("parse fails at 7", x.parse(), FAILED);
        Due.due("kind 1 and 299 steps", x.recover(), 1);
        dueError(x, 0, 39, 1, 17);
        x = stepsGrammar(1, 17, 13, 12);
        Due.due("kind 1 and 300 steps", x.recover(), LIMIT);
        dueError(x, 0, 39, 1, 17);
        x = stepsGrammar(1, 13);
        setInput(x, "0".repeat(38) + "41");
        Due.due("parse fails at t4", x.parse(), FAILED);
        Due.due("kind 2 and 299 steps", x.recover(), 1);
        dueError(x, 0, 38, 2, 11);
        x = stepsGrammar(1, 13, 12);
        setInput(x, "0".repeat(38) + "41");
        Due.due("kind 2 and 300 steps", x.recover(), LIMIT);
        dueError(x, 0, 38, 2, 11);
        x = stepsGrammar(1, 13);
        append(x, "7");
        Due.due("parse fails behind all", x.parse(), FAILED);
        Due.due("kind 3 and 299 steps", x.recover(), 1);
        dueError(x, 0, 39, 3, -1);
        x = stepsGrammar(1, 13, 12);
        append(x, "7");
        Due.due("kind 3 and 300 steps", x.recover(), LIMIT);
        Due.due("error(0, 0)", x.error(0, 0), NONE);
    }

    private static void errorKindsDescribed() throws Exception {
        words("Kind 0: the top symbol is a terminal; it is removed.");
        PredictiveGrammar x = new PredictiveGrammar();
        add(x, 0, 0, 1, 7);
        append(x, "07");
        Due.due("before the token that comes next", x.recover(), 1);
        dueError(x, 0, 1, 0, 1);
        x.clearInput();
        append(x, "0");
        Due.due("before the end marker", x.recover(), 2);
        dueError(x, 0, 1, 0, 1);
        dueError(x, 1, 1, 0, 7);

        words("Kind 1: the top symbol is a nonterminal without a table entry, and the current token is the end marker or is "
                + "in the follow set or the synchronizing set of the nonterminal; the nonterminal is removed.");
        x = between("0");
        Due.due("the end marker, which does not follow", x.recover(), 2);
        dueError(x, 0, 1, 1, 11);
        dueError(x, 1, 1, 0, 1);
        setInput(x, "01");
        Due.due("it follows", x.recover(), 1);
        dueError(x, 0, 1, 1, 11);
        setInput(x, "031");
        x.setSynchronizing(1, 8);
        Due.due("it is in the synchronizing set", x.recover(), 3);
        dueError(x, 0, 1, 1, 11);
        dueError(x, 1, 1, 0, 1);
        dueError(x, 2, 1, 3, -1);
        x.setSynchronizing(1, 4);
        setInput(x, "021");
        Due.due("a token with a table entry in the synchronizing set", x.recover(), 0);
        x = new PredictiveGrammar();
        Due.due("a nonterminal without a production", x.recover(), 1);
        dueError(x, 0, 0, 1, 10);

        words("Kind 2: the top symbol is a nonterminal without a table entry, and the token is none of these; the next token "
                + "becomes the current one.");
        x = between("0321");
        x.setSynchronizing(0, 511);
        Due.due("the synchronizing set of another", x.recover(), 1);
        dueError(x, 0, 1, 2, 11);
        x.setSynchronizing(0, 0);
        setInput(x, "03");
        Due.due("the last terminal", x.recover(), 3);
        dueError(x, 0, 1, 2, 11);
        dueError(x, 1, 2, 1, 11);
        dueError(x, 2, 2, 0, 1);
        setInput(x, "7".repeat(40));
        Due.due("each of 40 terminals", x.recover(), 41);
        dueError(x, 0, 0, 2, 10);
        dueError(x, 39, 39, 2, 10);
        dueError(x, 40, 40, 1, 10);

        words("Kind 3: the stack is empty, but the current token is not the end marker; the end marker becomes the current "
                + "token.");
        x = new PredictiveGrammar();
        add(x, 0, 0);
        append(x, "00");
        Due.due("one terminal remains", x.recover(), 1);
        dueError(x, 0, 1, 3, -1);
        append(x, "0".repeat(38));
        Due.due("39 terminals remain", x.recover(), 1);
        dueError(x, 0, 1, 3, -1);

        words("The synchronizing sets are initially empty.");
        x = between("0321");
        x.recover();
        Due.due("t3 is skipped", x.error(0, 1), 2);
        for (int n = 0; n < 8; n++) {
            Due.due("setSynchronizing(" + n + ", 1)", x.setSynchronizing(n, 1), 0);
        }
    }

    private static void reportsDescribed() throws Exception {
        words("Some methods leave a failure report, which replaces an earlier one; other calls do not change it.");
        PredictiveGrammar x = new PredictiveGrammar();
        Due.due("three levels", x.parse(), FAILED);
        dueReport(x, 1, 0, 3, 0, 5, 0);
        add(x, 0, 7);
        add(x, 0, 7);
        dueReport(x, 13, 0, 14, 0);
        Due.due("the errors of recover", x.recover(), 1);
        Due.due("the NONE of leftFactor", x.leftFactor(0), NONE);
        Due.due("the BAD of leftFactor", x.leftFactor(-1), BAD);
        Due.due("the NONE of removeLeftRecursion", x.removeLeftRecursion(0), NONE);
        Due.due("the BAD of removeLeftRecursion", x.removeLeftRecursion(8), BAD);
        Due.due("the BAD of addProduction", add(x, 0, 8), BAD);
        Due.due("the BAD of removeProduction", x.removeProduction(1), BAD);
        Due.due("a repair", x.repair(), 1);
        append(x, "6");
        Due.due("the NONE of repair", x.repair(), NONE);
        append(x, "66666666");
        Due.due("the LIMIT of repair", x.repair(), LIMIT);
        Due.due("the BAD of appendInput", x.appendInput(9), BAD);
        Due.due("a check without conflicts", x.check(), 0);
        x.clearInput();
        append(x, "7");
        Due.due("a parse that accepts", x.parse(), 2);
        Due.due("undo", x.undo(), 0);
        Due.due("the NONE of undo", x.undo(), NONE);
        Due.due("clear", x.clear(), 0);
        dueReport(x, 13, 0, 14, 0);
        x = fullGrammar(0);
        Due.due("the FULL of addProduction", add(x, 1), FULL);
        dueReport(x);
        x.clear();
        add(x, 0, 10);
        Due.due("the LIMIT of recover", limitOfRecover(x), LIMIT);
        dueReport(x);

        words("Initially, the report has no levels.");
        x = new PredictiveGrammar();
        Due.due("failureLevels()", x.failureLevels(), 0);
        Due.due("failureCode(0)", x.failureCode(0), NONE);
        Due.due("failureDetail(0)", x.failureDetail(0), NONE);
    }

    private static int limitOfRecover(PredictiveGrammar x) {
        add(x, 0, 0);
        append(x, "0");
        return x.recover();
    }

    private static void parseReportsDescribed() throws Exception {
        words("parse: level 0 has code 1 and the index of the current token.");
        PredictiveGrammar x = new PredictiveGrammar();
        add(x, 0, 0, 10);
        Due.due("the end marker, without input", x.parse(), FAILED);
        dueReport(x, 1, 0, 3, 0, 6, 1);
        append(x, "0".repeat(39) + "1");
        Due.due("the last terminal", x.parse(), FAILED);
        dueReport(x, 1, 39, 3, 0, 6, 1);
        setInput(x, "0".repeat(40));
        Due.due("the end marker behind 40 terminals", x.parse(), FAILED);
        dueReport(x, 1, 40, 3, 0, 6, 1);

        words("Level 1 has code 2 and the top symbol if this is a terminal, whatever the token is;");
        x = new PredictiveGrammar();
        add(x, 0, 1, 0);
        add(x, 0, 2, 7);
        append(x, "17");
        Due.due("t7 instead of t0", x.parse(), FAILED);
        dueReport(x, 1, 1, 2, 0);
        setInput(x, "1");
        Due.due("the end marker instead of t0", x.parse(), FAILED);
        dueReport(x, 1, 1, 2, 0);
        setInput(x, "20");
        Due.due("t0 instead of t7", x.parse(), FAILED);
        dueReport(x, 1, 1, 2, 7);
        setInput(x, "2");
        Due.due("the end marker instead of t7", x.parse(), FAILED);
        dueReport(x, 1, 1, 2, 7);

        words("code 4 and the number of remaining terminals if the stack is empty;");
        x = new PredictiveGrammar();
        add(x, 0);
        add(x, 1, 10, 0);
        append(x, "0");
        Due.due("one remains", x.parse(), FAILED);
        dueReport(x, 1, 0, 4, 1);
        append(x, "0".repeat(39));
        Due.due("all 40 remain", x.parse(), FAILED);
        dueReport(x, 1, 0, 4, 40);
        x = new PredictiveGrammar();
        add(x, 0, 0);
        append(x, "0".repeat(40));
        Due.due("39 remain", x.parse(), FAILED);
        dueReport(x, 1, 1, 4, 39);

        words("code 7 and the number of steps if the result is LIMIT.");
        x = stepsGrammar(1, 13, 12, 12);
        Due.due("before the 301st step", x.parse(), LIMIT);
        dueReport(x, 1, 39, 7, 300);
        x = stackGrammar(2, 2, 2, 2);
        Due.due("61 symbols, the top one is a terminal", x.parse(), LIMIT);
        dueReport(x, 1, 19, 7, 39);
        x = new PredictiveGrammar();
        add(x, 0, 10, 10, 10, 10, 10);
        add(x, 0, 0);
        append(x, "0");
        Due.due("61 symbols, the top one is a nonterminal", x.parse(), LIMIT);
        dueReport(x, 1, 0, 7, 15);
    }

    private static void noEntryReportsDescribed() throws Exception {
        words("code 3 and the number of the nonterminal if it has no table entry;");
        PredictiveGrammar x = new PredictiveGrammar();
        Due.due("nonterminal 0", x.parse(), FAILED);
        dueReport(x, 1, 0, 3, 0, 5, 0);
        add(x, 0, 0, 17);
        append(x, "0");
        Due.due("nonterminal 7", x.parse(), FAILED);
        dueReport(x, 1, 1, 3, 7, 5, 7);

        words("After code 3, level 2 has code 5 and the number of the nonterminal if it has no productions, otherwise code 6 "
                + "and the number of tokens for which it has table entries.");
        add(x, 7, 17);
        Due.due("no tokens, but a production", x.parse(), FAILED);
        dueReport(x, 1, 1, 3, 7, 6, 0);
        add(x, 7, 3);
        add(x, 7, 3, 3);
        Due.due("one token of two productions", x.parse(), FAILED);
        dueReport(x, 1, 1, 3, 7, 6, 1);
        for (int t = 0; t < 8; t++) {
            add(x, 7, t);
        }
        Due.due("all terminals", x.parse(), FAILED);
        dueReport(x, 1, 1, 3, 7, 6, 8);
        x.clear();
        add(x, 0, 11);
        add(x, 1);
        add(x, 1, 7);
        Due.due("t7 and the end marker", x.parse(), FAILED);
        dueReport(x, 1, 0, 3, 0, 6, 2);
        x.removeProduction(1);
        x.removeProduction(1);
        Due.due("1 has no productions, but 0 has", x.parse(), FAILED);
        dueReport(x, 1, 0, 3, 0, 6, 0);
    }

    private static void otherReportsDescribed() throws Exception {
        words("check: level 0 has code 8 and the number of conflicts; level 1 has code 9 and the nonterminal of conflict 0; "
                + "level 2 has the code 10 plus the kind of conflict 0, and its token.");
        PredictiveGrammar x = new PredictiveGrammar();
        add(x, 7, 0, 1);
        add(x, 7, 0, 2);
        add(x, 7, 0, 3);
        x.check();
        dueReport(x, 8, 3, 9, 7, 10, 0);
        add(x, 0, 11, 7);
        add(x, 1, 7);
        add(x, 1);
        x.check();
        dueReport(x, 8, 4, 9, 1, 11, 7);
        add(x, 0);
        add(x, 0, 12);
        add(x, 2);
        x.check();
        dueReport(x, 8, 5, 9, 0, 12, 8);

        words("addProduction: level 0 has code 13 and the left side; level 1 has code 14 and the number of the equal "
                + "production.");
        add(x, 7, 0, 1);
        dueReport(x, 13, 7, 14, 0);
        add(x, 2);
        dueReport(x, 13, 2, 14, 8);
        add(x, 0);
        dueReport(x, 13, 0, 14, 6);

        words("leftFactor and removeLeftRecursion: level 0 has code 15 and the nonterminal. Level 1 has code 16 and 0 if "
                + "there is no unused nonterminal; code 17 and the number of productions that there would be if these are "
                + "too many; code 19 and the number of productions of the nonterminal; code 18 or 20 and the number of a "
                + "production as described at removeLeftRecursion.");
        x = new PredictiveGrammar();
        add(x, 7, 11, 12, 13, 14, 15);
        add(x, 7, 11, 16);
        add(x, 7, 17, 1);
        x.leftFactor(7);
        dueReport(x, 15, 7, 16, 0);
        x.removeLeftRecursion(7);
        dueReport(x, 15, 7, 20, 0);
        add(x, 7, 17);
        x.removeLeftRecursion(7);
        dueReport(x, 15, 7, 18, 3);
        x.removeProduction(3);
        x.removeProduction(0);
        add(x, 0, 12, 13, 14, 15);
        x.removeLeftRecursion(7);
        dueReport(x, 15, 7, 16, 0);
        x = fullGrammar(7);
        x.leftFactor(7);
        dueReport(x, 15, 7, 17, 25);
        x.removeProduction(0);
        add(x, 7, 17, 1);
        x.removeLeftRecursion(7);
        dueReport(x, 15, 7, 17, 25);
        x.clear();
        for (int i = 0; i < 24; i++) {
            add(x, 7, 17, i % 8, i / 8);
        }
        x.removeLeftRecursion(7);
        dueReport(x, 15, 7, 19, 24);
    }

    private static void setSynchronizing() throws Exception {
        Doc.sentence(29, "This is no edit, and clear and undo do not change these sets.");
        PredictiveGrammar x = new PredictiveGrammar();
        x.setSynchronizing(0, 5);
        Due.due("undo()", x.undo(), NONE);
        add(x, 0, 1);
        x.setSynchronizing(1, 6);
        Due.due("changedNonterminals()", x.changedNonterminals(), 1);
        x.undo();
        x.clear();
        x.undo();
        Due.due("the set of before", x.setSynchronizing(0, 0), 5);
        Due.due("the set of between", x.setSynchronizing(1, 0), 6);

        Doc.sentence(29, "`set`: the set of tokens, 0 to 511");
        Due.due("setSynchronizing(0, 511)", x.setSynchronizing(0, 511), 0);
        Due.due("setSynchronizing(0, 0)", x.setSynchronizing(0, 0), 511);
        Due.due("setSynchronizing(0, 512)", x.setSynchronizing(0, 512), BAD);
        Due.due("setSynchronizing(0, -1)", x.setSynchronizing(0, -1), BAD);

        Doc.sentence(29, "Returns the previous set; BAD if an argument is out of range.");
        for (int n = 0; n < 8; n++) {
            Due.due("setSynchronizing(" + n + ", 256)", x.setSynchronizing(n, 256 + n), 0);
        }
        for (int wrong : WRONG) {
            Due.due("setSynchronizing(" + wrong + ", 0)", x.setSynchronizing(wrong, 0), BAD);
        }
        for (int wrong : new int[] {-1, 512, 1024, Integer.MIN_VALUE, Integer.MAX_VALUE}) {
            Due.due("setSynchronizing(7, " + wrong + ")", x.setSynchronizing(7, wrong), BAD);
        }
        for (int n = 0; n < 8; n++) {
            Due.due("setSynchronizing(" + n + ", 0)", x.setSynchronizing(n, 0), 256 + n);
        }
    }

    private static void input() throws Exception {
        Doc.sentence(30, "They are given by the decimal digits of a number, from the most significant one on: digit d stands "
                + "for terminal d - 1.");
        PredictiveGrammar x = new PredictiveGrammar();
        x.appendInput(12345678);
        x.appendInput(8);
        x.appendInput(1);
        dueWord("the input", x::inputTerminal, "0123456770");

        Doc.sentence(30, "`digits`: a positive number whose digits are 1 to 8");
        x = new PredictiveGrammar();
        Due.due("the least", x.appendInput(1), 1);
        Due.due("the greatest of one digit", x.appendInput(8), 2);
        Due.due("the greatest of all", x.appendInput(2147483647), 12);
        dueWord("the input", x::inputTerminal, "071036372536");

        Doc.sentence(30, "Returns the number of terminals of the input; BAD if digits is not as described; FULL if there "
                + "would be more than 40 terminals.");
        for (int wrong : new int[] {0, 9, 10, 19, 91, 101, 1000000001, 1111111190, 2111111119, -1, -8, -11, -2147483647,
                Integer.MIN_VALUE}) {
            Due.due("appendInput(" + wrong + ")", x.appendInput(wrong), BAD);
        }
        Due.due("appendInput(1111111111)", x.appendInput(1111111111), 22);
        Due.due("appendInput(1111111111)", x.appendInput(1111111111), 32);
        Due.due("nine more", x.appendInput(111111111), FULL);
        Due.due("eight more", x.appendInput(87654321), 40);
        Due.due("one more", x.appendInput(1), FULL);
        Due.due("BAD comes first", x.appendInput(9), BAD);
        dueWord("the input", x::inputTerminal, "071036372536" + "0".repeat(20) + "76543210");

        Doc.sentence(31, "Returns the number of terminals removed.");
        Due.due("of 40", x.clearInput(), 40);
        Due.due("of none", x.clearInput(), 0);
        x.appendInput(1);
        Due.due("of one", x.clearInput(), 1);

        Doc.sentence(32, "Returns the terminal; NONE if there is no such position.");
        dueWord("of no input", x::inputTerminal, "");
        append(x, "70".repeat(20));
        dueWord("of 40", x::inputTerminal, "70".repeat(20));
    }

    private static void parse() throws Exception {
        Doc.sentence(33, "The trace and the tree of an earlier call of parse or recover are replaced, even by a call that "
                + "fails; edits and undo leave them as they are.");
        PredictiveGrammar x = between("021");
        Due.due("parse()", x.parse(), 5);
        dueTrace(x, 0, 1);
        add(x, 5);
        x.removeProduction(1);
        x.leftFactor(0);
        x.clear();
        x.undo();
        dueTrace(x, 0, 1);
        Due.due("nodeCount()", x.nodeCount(), 5);
        Due.due("nodeSymbol(3)", x.nodeSymbol(3), 2);
        x.undo();
        x.clearInput();
        append(x, "0");
        Due.due("a parse that fails", x.parse(), FAILED);
        dueTrace(x, 0);
        Due.due("nodeCount()", x.nodeCount(), 0);
        Due.due("nodeSymbol(0)", x.nodeSymbol(0), NONE);
        x.clearInput();
        Due.due("a parse that fails at once", x.parse(), FAILED);
        dueTrace(x);
        setInput(x, "021");
        Due.due("a parse that accepts", x.parse(), 5);
        x.clear();
        add(x, 0, 10);
        add(x, 0, 0);
        Due.due("a parse that reaches a limit", x.parse(), LIMIT);
        Due.due("traceLength()", x.traceLength(), 300);
        Due.due("nodeCount()", x.nodeCount(), 0);
        x = between("03");
        Due.due("recover()", x.recover(), 3);
        dueTrace(x, 0);
        setInput(x, "021");
        Due.due("a parse behind recover", x.parse(), 5);
        dueTrace(x, 0, 1);

        Doc.sentence(33, "Returns the number of steps if the parser accepts; FAILED or LIMIT otherwise, which leaves a "
                + "failure report.");
        x = new PredictiveGrammar();
        add(x, 0);
        Due.due("one step", x.parse(), 1);
        dueReport(x);
        append(x, "0");
        Due.due("parse()", x.parse(), FAILED);
        dueReport(x, 1, 0, 3, 0, 6, 1);
        add(x, 0, 10);
        x.clearInput();
        Due.due("the lowest production ends it", x.parse(), 1);
        x.removeProduction(0);
        add(x, 0);
        Due.due("parse()", x.parse(), LIMIT);
        dueReport(x, 1, 0, 7, 300);
    }

    private static void recover() throws Exception {
        Doc.sentence(34, "The trace and the errors of an earlier call are replaced, the errors by no other method; the tree "
                + "becomes empty.");
        PredictiveGrammar x = between("03");
        Due.due("recover()", x.recover(), 3);
        setInput(x, "021");
        Due.due("parse()", x.parse(), 5);
        add(x, 1, 3);
        x.removeProduction(2);
        x.clear();
        x.undo();
        x.check();
        x.repair();
        dueError(x, 0, 1, 2, 11);
        dueError(x, 2, 2, 0, 1);
        Due.due("error(3, 0)", x.error(3, 0), NONE);
        Due.due("nodeCount()", x.nodeCount(), 5);
        Due.due("recover()", x.recover(), 0);
        Due.due("error(0, 0)", x.error(0, 0), NONE);
        Due.due("nodeCount()", x.nodeCount(), 0);
        dueTrace(x, 0, 1);
        x.clearInput();
        Due.due("recover()", x.recover(), 1);
        dueError(x, 0, 0, 1, 10);
        dueTrace(x);

        Doc.sentence(34, "This leaves no failure report.");
        Due.due("of an error", x.failureLevels(), 0);
        x.clear();
        Due.due("parse()", x.parse(), FAILED);
        add(x, 0, 0);
        Due.due("recover()", x.recover(), 1);
        dueReport(x, 1, 0, 3, 0, 5, 0);
    }

    private static void recoverStopped() throws Exception {
        Doc.sentence(34, "Returns the number of errors; LIMIT if the parser stops with it, in which case the trace and the "
                + "errors are those until then.");
        Due.due("no error", between("021").recover(), 0);
        Due.due("one error", between("01").recover(), 1);
        Due.due("57 errors", stackGrammar(2, 2, 2).recover(), 57);
        PredictiveGrammar x = new PredictiveGrammar();
        add(x, 0, 10);
        add(x, 0, 0);
        append(x, "770");
        Due.due("two errors, then no end", x.recover(), LIMIT);
        dueError(x, 0, 0, 2, 10);
        dueError(x, 1, 1, 2, 10);
        Due.due("error(2, 0)", x.error(2, 0), NONE);
        Due.due("traceLength()", x.traceLength(), 298);
        Due.due("trace(297)", x.trace(297), 0);
        Due.due("nodeCount()", x.nodeCount(), 0);
        x = stackGrammar(2, 2, 2, 2);
        setInput(x, "7" + "0".repeat(19) + "2");
        Due.due("an error, then 61 symbols", x.recover(), LIMIT);
        dueError(x, 0, 0, 2, 10);
        Due.due("error(1, 0)", x.error(1, 0), NONE);
        Due.due("traceLength()", x.traceLength(), 20);
        Due.due("trace(19)", x.trace(19), 1);
        x.clear();
        x.clearInput();
        Due.due("the errors of before are replaced", x.recover(), 1);
        dueError(x, 0, 0, 1, 10);
    }

    private static void errors() throws Exception {
        PredictiveGrammar x = between("03");
        Due.due("recover()", x.recover(), 3);
        append(x, "1");
        Doc.sentence(35, "`i`: the number of the error, in the order of occurrence, from 0");
        dueError(x, 0, 1, 2, 11);
        dueError(x, 1, 2, 1, 11);
        dueError(x, 2, 2, 0, 1);

        Doc.sentence(35, "`what`: 0 for the index of the current token, 1 for the kind, 2 for the top symbol, or -1 for kind "
                + "3");
        PredictiveGrammar y = between("021" + "7".repeat(37));
        Due.due("recover()", y.recover(), 1);
        dueError(y, 0, 3, 3, -1);

        Doc.sentence(35, "Returns the part; BAD if what is out of range; NONE if there is no such error.");
        for (int wrong : new int[] {-1, 3, Integer.MIN_VALUE, Integer.MAX_VALUE}) {
            Due.due("error(0, " + wrong + ")", x.error(0, wrong), BAD);
            Due.due("error(3, " + wrong + ")", x.error(3, wrong), BAD);
        }
        for (int wrong : new int[] {-1, 3, 299, 300, Integer.MIN_VALUE, Integer.MAX_VALUE}) {
            Due.due("error(" + wrong + ", 0)", x.error(wrong, 0), NONE);
            Due.due("error(" + wrong + ", 2)", x.error(wrong, 2), NONE);
        }
        Due.due("without a call of recover", new PredictiveGrammar().error(0, 0), NONE);
        Due.due("without a call of recover", new PredictiveGrammar().error(0, 3), BAD);
    }

    private static void trace() throws Exception {
        Doc.sentence(36, "Returns the number of productions, 0 if there was no such call.");
        PredictiveGrammar x = between("021");
        Due.due("no call", x.traceLength(), 0);
        x.check();
        x.repair();
        Due.due("other calls", x.traceLength(), 0);
        x.parse();
        Due.due("two productions", x.traceLength(), 2);
        x.clearInput();
        x.parse();
        Due.due("no production", x.traceLength(), 0);
        x.clear();
        add(x, 0, 10);
        add(x, 0);
        x.parse();
        Due.due("300 productions", x.traceLength(), 300);

        Doc.sentence(37, "Returns the number that the production had then; NONE if there is no such position.");
        Due.due("trace(299)", x.trace(299), 0);
        Due.due("trace(300)", x.trace(300), NONE);
        x = between("021");
        for (int wrong : new int[] {-1, 0, 1, Integer.MIN_VALUE, Integer.MAX_VALUE}) {
            Due.due("trace(" + wrong + ") without a call", x.trace(wrong), NONE);
        }
        x.parse();
        x.removeProduction(0);
        Due.due("trace(1)", x.trace(1), 1);
        x.clear();
        Due.due("trace(1)", x.trace(1), 1);
        for (int wrong : new int[] {-1, 2, 300, Integer.MIN_VALUE, Integer.MAX_VALUE}) {
            Due.due("trace(" + wrong + ")", x.trace(wrong), NONE);
        }
        x = fullGrammar(1);
        x.removeProduction(0);
        add(x, 0, 11);
        append(x, "72");
        x.parse();
        Due.due("the number 23", x.trace(0), 23);
        Due.due("the number 6, once 7", x.trace(1), 6);
        Due.due("trace(2)", x.trace(2), NONE);
    }

    private static void treeDescribed() throws Exception {
        Doc.sentence(38, "The tree is the derivation tree of the latest call of parse, if it accepted, and otherwise empty.");
        PredictiveGrammar x = between("021");
        Due.due("no call", x.nodeCount(), 0);
        x.recover();
        Due.due("no call of parse", x.nodeCount(), 0);
        x.parse();
        Due.due("it accepted", x.nodeCount(), 5);
        append(x, "1");
        x.parse();
        Due.due("it failed", x.nodeCount(), 0);
        x.clear();
        x.clearInput();
        add(x, 0);
        x.parse();
        Due.due("one node", x.nodeCount(), 1);
        x.clear();
        add(x, 0, 10);
        add(x, 0);
        x.parse();
        Due.due("a limit", x.nodeCount(), 0);
        x = stepsGrammar(1, 13, 12);
        x.parse();
        Due.due("300 nodes", x.nodeCount(), 300);

        Doc.sentence(38, "Its nodes are numbered from 0 in preorder: a node before its children, and the children from left "
                + "to right.");
        x = parsedTree();
        int[] symbols = {10, 11, 0, 12, 1, 11, 0, 12, 1, 2};
        int[] parents = {-1, 0, 1, 1, 3, 0, 5, 5, 7, 0};
        for (int node = 0; node < 10; node++) {
            Due.due("nodeSymbol(" + node + ")", x.nodeSymbol(node), symbols[node]);
            Due.due("nodeParent(" + node + ")", x.nodeParent(node), parents[node]);
        }
    }

    /** 0 -> 1 1 t2; 1 -> t0 2; 2 -> t1. */
    private static PredictiveGrammar parsedTree() {
        PredictiveGrammar x = new PredictiveGrammar();
        add(x, 0, 11, 11, 2);
        add(x, 1, 0, 12);
        add(x, 2, 1);
        append(x, "01012");
        Due.due("parse()", x.parse(), 10);
        return x;
    }

    private static void dueNoNodes(Word part, int count) {
        for (int wrong : new int[] {-1, count, 299, 300, Integer.MIN_VALUE, Integer.MAX_VALUE}) {
            if (wrong >= count || wrong < 0) {
                Due.due("node " + wrong, part.terminal(wrong), NONE);
            }
        }
    }

    private static void treeNodes() throws Exception {
        PredictiveGrammar none = new PredictiveGrammar();
        PredictiveGrammar one = new PredictiveGrammar();
        add(one, 0);
        one.parse();
        PredictiveGrammar most = stepsGrammar(1, 13, 12);
        most.parse();
        Doc.sentence(39, "Returns the symbol; NONE if there is no such node.");
        dueNoNodes(none::nodeSymbol, 0);
        dueNoNodes(one::nodeSymbol, 1);
        dueNoNodes(most::nodeSymbol, 300);
        Due.due("of node 0", one.nodeSymbol(0), 10);
        Due.due("of node 299", most.nodeSymbol(299), 12);

        Doc.sentence(40, "-1 for node 0; NONE if there is no such node.");
        dueNoNodes(none::nodeParent, 0);
        dueNoNodes(one::nodeParent, 1);
        dueNoNodes(most::nodeParent, 300);
        Due.due("of node 0", one.nodeParent(0), -1);
        Due.due("of node 299", most.nodeParent(299), 38 * 7);

        Doc.sentence(41, "Returns the greatest number of edges on a path down from the node; NONE if there is no such node.");
        dueNoNodes(none::nodeHeight, 0);
        dueNoNodes(one::nodeHeight, 1);
        dueNoNodes(most::nodeHeight, 300);
        Due.due("of the only node", one.nodeHeight(0), 0);
        PredictiveGrammar x = parsedTree();
        int[] heights = {3, 2, 0, 1, 0, 2, 0, 1, 0, 0};
        for (int node = 0; node < 10; node++) {
            Due.due("nodeHeight(" + node + ")", x.nodeHeight(node), heights[node]);
        }
        x = new PredictiveGrammar();
        add(x, 0, 11);
        add(x, 1, 0, 11);
        add(x, 1);
        append(x, "000");
        Due.due("parse()", x.parse(), 8);
        Due.due("of the start", x.nodeHeight(0), 4);
        Due.due("of the second", x.nodeHeight(1), 3);
        x.clearInput();
        Due.due("parse()", x.parse(), 2);
        Due.due("of the start of a lower tree", x.nodeHeight(0), 1);
        Due.due("of its only other node", x.nodeHeight(1), 0);
        Due.due("of a node of before", x.nodeHeight(2), NONE);
        x.clear();
        add(x, 0, 11);
        add(x, 1, 12);
        add(x, 2, 0);
        append(x, "0");
        Due.due("parse()", x.parse(), 4);
        Due.due("of the start of a chain", x.nodeHeight(0), 3);
        Due.due("of a node with five paths of one length", most.nodeHeight(38 * 7 + 2), 2);
        Due.due("of node 0", most.nodeHeight(0), 38 + 1 + 2);
        Due.due("of node 299", most.nodeHeight(299), 0);
        most.recover();
        Due.due("after recover", most.nodeHeight(0), NONE);
    }

    private static void setWeight() throws Exception {
        Doc.sentence(42, "Sets the weight of a terminal, initially 1.");
        PredictiveGrammar x = new PredictiveGrammar();
        for (int t = 0; t < 8; t++) {
            Due.due("setWeight(" + t + ", 2)", x.setWeight(t, 2), 1);
        }

        Doc.sentence(42, "`weight`: the weight, 1 to 9");
        Due.due("setWeight(0, 9)", x.setWeight(0, 9), 2);
        Due.due("setWeight(0, 1)", x.setWeight(0, 1), 9);
        Due.due("setWeight(0, 0)", x.setWeight(0, 0), BAD);
        Due.due("setWeight(0, 10)", x.setWeight(0, 10), BAD);

        Doc.sentence(42, "Returns the previous weight; BAD if an argument is out of range.");
        for (int wrong : WRONG) {
            Due.due("setWeight(" + wrong + ", 3)", x.setWeight(wrong, 3), BAD);
        }
        for (int wrong : new int[] {-1, 0, 10, Integer.MIN_VALUE, Integer.MAX_VALUE}) {
            Due.due("setWeight(7, " + wrong + ")", x.setWeight(7, wrong), BAD);
        }
        Due.due("the weight of before", x.setWeight(0, 1), 1);
        Due.due("the weight of before", x.setWeight(7, 1), 2);
        Due.due("the weight of before", x.setWeight(7, 1), 1);
    }

    private static void dueRepair(PredictiveGrammar x, String input, String want) {
        setInput(x, input);
        Due.due("repair() of '" + input + "'", x.repair(), want.length() - input.length());
        dueWord("the repaired '" + input + "'", x::repairedTerminal, want);
    }

    private static void leastInsertions() throws Exception {
        Doc.sentence(43, "Finds the least insertions: the string derived from nonterminal 0 into which the input can be "
                + "turned by insertions of terminals, with the fewest terminals; among those the one with the least sum of "
                + "the weights of its terminals; among those the lexicographically smallest one.");
        PredictiveGrammar x = new PredictiveGrammar();
        // nothing is removed, and nothing changes its place
        add(x, 0, 1, 10, 2);
        add(x, 0, 3);
        add(x, 0);
        dueRepair(x, "", "");
        dueRepair(x, "12", "12");
        dueRepair(x, "1", "12");
        dueRepair(x, "2", "12");
        dueRepair(x, "122", "1122");
        dueRepair(x, "3", "3");
        dueRepair(x, "32", "132");
        setInput(x, "21");
        Due.due("t2 before t1", x.repair(), NONE);
        setInput(x, "33");
        Due.due("t3 twice", x.repair(), NONE);
        // the fewest terminals, then the least sum of weights, then the smallest
        x = new PredictiveGrammar();
        add(x, 0, 1, 7);
        add(x, 0, 0, 2, 3);
        x.setWeight(7, 9);
        dueRepair(x, "", "17");
        add(x, 0, 6, 6);
        dueRepair(x, "", "66");
        x.setWeight(6, 5);
        dueRepair(x, "", "17");
        x.setWeight(6, 4);
        dueRepair(x, "", "66");
        x.setWeight(6, 9);
        x.setWeight(1, 9);
        dueRepair(x, "", "17");
        dueRepair(x, "7", "17");
        dueRepair(x, "6", "66");
        dueRepair(x, "2", "023");
        add(x, 0, 6, 2);
        dueRepair(x, "2", "62");
        add(x, 0, 2, 6);
        dueRepair(x, "2", "26");
        x = new PredictiveGrammar();
        add(x, 0, 17, 1);
        add(x, 7, 0);
        add(x, 7, 2);
        dueRepair(x, "1", "01");
        dueRepair(x, "2", "21");
        dueRepair(x, "", "01");
        x = new PredictiveGrammar();
        add(x, 1, 0);
        add(x, 0);
        setInput(x, "0");
        Due.due("the empty string has no t0", x.repair(), NONE);
        heaviest();
    }

    /** 39 terminals of weight 9 against 40 of weight 1, and then 40 of weight 9. */
    private static void heaviest() {
        PredictiveGrammar x = new PredictiveGrammar();
        x.setWeight(0, 9);
        add(x, 0, 11);
        add(x, 0, 12);
        add(x, 1, 15, 13, 13, 16);
        add(x, 5, 13, 13, 13, 13, 13);
        add(x, 3, 0, 0, 0, 0, 0);
        add(x, 2, 17, 14, 14, 14);
        add(x, 7, 14, 14, 14, 14, 14);
        add(x, 4, 1, 1, 1, 1, 1);
        add(x, 6, 0, 0, 0, 0);
        dueRepair(x, "", "0".repeat(39));
        x.removeProduction(8);
        add(x, 6, 0, 0, 0, 0, 0);
        dueRepair(x, "", "1".repeat(40));
        dueRepair(x, "0", "0".repeat(40));
        x.setWeight(1, 9);
        dueRepair(x, "", "0".repeat(40));
    }

    private static void repairLimits() throws Exception {
        Doc.sentence(43, "Returns the number of inserted terminals; LIMIT if the input has more than 8 terminals; NONE if "
                + "there is no such string with at most 40 terminals.");
        PredictiveGrammar x = new PredictiveGrammar();
        Due.due("no productions", x.repair(), NONE);
        append(x, "0".repeat(9));
        Due.due("LIMIT before NONE", x.repair(), LIMIT);
        add(x, 0, 0, 10);
        Due.due("LIMIT before NONE", x.repair(), LIMIT);
        add(x, 0);
        Due.due("nine terminals that need no insertion", x.repair(), LIMIT);
        append(x, "0".repeat(31));
        Due.due("40 terminals", x.repair(), LIMIT);
        dueRepair(x, "0".repeat(8), "0".repeat(8));
        dueRepair(x, "", "");
        add(x, 0, 1, 1, 1, 1, 1);
        dueRepair(x, "011111", "011111");
        setInput(x, "0111111");
        Due.due("six t1", x.repair(), NONE);
        x = fortyGrammar();
        dueRepair(x, "", "01230123".repeat(4) + "45677654");
        dueRepair(x, "00000004", "01230123".repeat(4) + "45677654");
        x = fortyGrammar(0);
        Due.due("41 terminals, none of them given", x.repair(), NONE);
        append(x, "01230123");
        Due.due("41 terminals, eight of them given", x.repair(), NONE);
    }

    private static void repairedTerminal() throws Exception {
        Doc.sentence(44, "Returns a terminal of the repaired input of the latest call of repair that returned no error code.");
        PredictiveGrammar x = between("2");
        Due.due("repair()", x.repair(), 2);
        append(x, "7");
        Due.due("repair()", x.repair(), NONE);
        append(x, "7777777");
        Due.due("repair()", x.repair(), LIMIT);
        x.clear();
        x.clearInput();
        x.setWeight(0, 9);
        x.parse();
        x.recover();
        dueWord("the repaired input of before", x::repairedTerminal, "021");
        add(x, 0);
        Due.due("repair()", x.repair(), 0);
        dueWord("the later repaired input", x::repairedTerminal, "");

        Doc.sentence(44, "Returns the terminal; NONE if there is no such call or position.");
        PredictiveGrammar none = new PredictiveGrammar();
        dueWord("no call", none::repairedTerminal, "");
        Due.due("repair()", none.repair(), NONE);
        append(none, "0".repeat(9));
        Due.due("repair()", none.repair(), LIMIT);
        dueWord("no call without an error code", none::repairedTerminal, "");
        PredictiveGrammar forty = fortyGrammar();
        Due.due("repair()", forty.repair(), 40);
        Due.due("repairedTerminal(39)", forty.repairedTerminal(39), 4);
        dueWord("40 terminals", forty::repairedTerminal, "01230123".repeat(4) + "45677654");
    }

    private static void failureReport() throws Exception {
        PredictiveGrammar none = new PredictiveGrammar();
        PredictiveGrammar two = between("021");
        add(two, 1, 2);
        PredictiveGrammar three = between("0");
        three.parse();
        int[] wrong = {-1, 3, 4, Integer.MIN_VALUE, Integer.MAX_VALUE};
        Doc.sentence(45, "Returns the number of levels.");
        Due.due("of no report", none.failureLevels(), 0);
        Due.due("of addProduction", two.failureLevels(), 2);
        Due.due("of parse", three.failureLevels(), 3);

        Doc.sentence(46, "Returns the code; NONE if there is no such level.");
        Due.due("failureCode(0) of no report", none.failureCode(0), NONE);
        Due.due("failureCode(1) of two", two.failureCode(1), 14);
        Due.due("failureCode(2) of two", two.failureCode(2), NONE);
        Due.due("failureCode(2) of three", three.failureCode(2), 6);
        for (int level : wrong) {
            Due.due("failureCode(" + level + ")", three.failureCode(level), NONE);
        }

        Doc.sentence(47, "Returns the detail; NONE if there is no such level.");
        Due.due("failureDetail(0) of no report", none.failureDetail(0), NONE);
        Due.due("failureDetail(1) of two", two.failureDetail(1), 1);
        Due.due("failureDetail(2) of two", two.failureDetail(2), NONE);
        Due.due("failureDetail(2) of three", three.failureDetail(2), 1);
        for (int level : wrong) {
            Due.due("failureDetail(" + level + ")", three.failureDetail(level), NONE);
        }
        add(three, 0, 0, 11, 1);
        Due.due("failureDetail(1) of the report that replaced it", three.failureDetail(1), 0);
        Due.due("failureDetail(2) of the report that replaced it", three.failureDetail(2), NONE);
    }
}
