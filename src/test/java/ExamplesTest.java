/** The document's four examples, each on a new object. */
public final class ExamplesTest {
    public static void main(String[] args) {
        grammarAndParse();
        conflictFactoredAndUndone();
        leftRecursionRemoved();
        inputWithAnError();
        Due.end();
    }

    private static void grammarAndParse() {
        Due.part("a grammar that is all right, and a parse");
        PredictiveGrammar x = new PredictiveGrammar();
        Due.due("addProduction(0, 0, 10, 1, -1, -1)", x.addProduction(0, 0, 10, 1, -1, -1), 0);
        Due.due("addProduction(0, -1, -1, -1, -1, -1)", x.addProduction(0, -1, -1, -1, -1, -1), 1);
        Due.due("firstSet(0)", x.firstSet(0), 1);
        Due.due("followSet(0)", x.followSet(0), 258);
        Due.due("selectSet(1)", x.selectSet(1), 258);
        Due.due("check()", x.check(), 0);
        Due.due("appendInput(1122)", x.appendInput(1122), 4);
        Due.due("parse()", x.parse(), 7);
        Due.due("nodeCount()", x.nodeCount(), 7);
        Due.due("nodeHeight(0)", x.nodeHeight(0), 2);
    }

    private static void conflictFactoredAndUndone() {
        Due.part("a conflict, factored and undone");
        PredictiveGrammar x = new PredictiveGrammar();
        Due.due("addProduction(0, 0, 1, -1, -1, -1)", x.addProduction(0, 0, 1, -1, -1, -1), 0);
        Due.due("addProduction(0, 0, 2, -1, -1, -1)", x.addProduction(0, 0, 2, -1, -1, -1), 1);
        Due.due("check()", x.check(), -5);
        Due.due("failureLevels()", x.failureLevels(), 3);
        Due.due("failureCode(2)", x.failureCode(2), 10);
        Due.due("failureDetail(2)", x.failureDetail(2), 0);
        Due.due("exampleLength(0, 1)", x.exampleLength(0, 1), 2);
        Due.due("exampleTerminal(0, 1, 1)", x.exampleTerminal(0, 1, 1), 2);
        Due.due("leftFactor(0)", x.leftFactor(0), 1);
        Due.due("productionCount()", x.productionCount(), 3);
        Due.due("check()", x.check(), 0);
        Due.due("undo()", x.undo(), 2);
        Due.due("productionCount()", x.productionCount(), 2);
    }

    private static void leftRecursionRemoved() {
        Due.part("a left recursion that is removed");
        PredictiveGrammar x = new PredictiveGrammar();
        Due.due("addProduction(0, 10, 0, 1, -1, -1)", x.addProduction(0, 10, 0, 1, -1, -1), 0);
        Due.due("addProduction(0, 1, -1, -1, -1, -1)", x.addProduction(0, 1, -1, -1, -1, -1), 1);
        Due.due("leftRecursive(0)", x.leftRecursive(0), 1);
        Due.due("removeLeftRecursion(0)", x.removeLeftRecursion(0), 1);
        Due.due("tableEntry(1, 0)", x.tableEntry(1, 0), 1);
        Due.due("tableEntry(1, 8)", x.tableEntry(1, 8), 2);
        Due.due("tableEntry(1, 1)", x.tableEntry(1, 1), -2);
        Due.due("addProduction(9, -1, -1, -1, -1, -1)", x.addProduction(9, -1, -1, -1, -1, -1), -1);
    }

    private static void inputWithAnError() {
        Due.part("an input with an error");
        PredictiveGrammar x = new PredictiveGrammar();
        Due.due("addProduction(0, 0, 11, 1, -1, -1)", x.addProduction(0, 0, 11, 1, -1, -1), 0);
        Due.due("addProduction(1, 2, -1, -1, -1, -1)", x.addProduction(1, 2, -1, -1, -1, -1), 1);
        Due.due("appendInput(22)", x.appendInput(22), 2);
        Due.due("parse()", x.parse(), -5);
        Due.due("failureCode(1)", x.failureCode(1), 3);
        Due.due("failureDetail(1)", x.failureDetail(1), 0);
        Due.due("recover()", x.recover(), 3);
        Due.due("error(0, 1)", x.error(0, 1), 2);
        Due.due("error(0, 2)", x.error(0, 2), 10);
        Due.due("clearInput()", x.clearInput(), 2);
        Due.due("appendInput(2)", x.appendInput(2), 1);
        Due.due("repair()", x.repair(), 2);
        Due.due("repairedTerminal(1)", x.repairedTerminal(1), 2);
    }
}
