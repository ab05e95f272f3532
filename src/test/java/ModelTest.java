import java.lang.reflect.Method;
import java.util.ArrayList;
import java.util.Arrays;
import java.util.HashMap;
import java.util.List;
import java.util.Map;
import java.util.Random;

/** Long runs of calls, drawn from fixed seeds, on the program and on the plain model: all answers are the same. */
public final class ModelTest {
    private static final int RUNS = 400;
    private static final int CALLS = 500;

    private final Map<String, Method> programMethods = new HashMap<>();
    private final Map<String, Method> modelMethods = new HashMap<>();
    private Random random;
    private PredictiveGrammar program;
    private Model model;
    private int terminals;
    private int nonterminals;
    private int mostRight;
    private int mostProductions;
    private int calls;
    private final Map<Integer, Integer> parseAnswers = new HashMap<>();

    public static void main(String[] args) throws Exception {
        int runs = args.length > 0 ? Integer.parseInt(args[0]) : RUNS;
        int first = args.length > 1 ? Integer.parseInt(args[1]) : 0;
        new ModelTest().runAll(first, runs);
        Due.end();
    }

    private ModelTest() {
        for (Method method : PredictiveGrammar.class.getMethods()) {
            programMethods.put(method.getName(), method);
        }
        for (Method method : Model.class.getDeclaredMethods()) {
            if (method.getReturnType() == int.class && programMethods.containsKey(method.getName())) {
                modelMethods.put(method.getName(), method);
            }
        }
    }

    private void runAll(int first, int runs) throws Exception {
        for (int seed = first; seed < first + runs; seed++) {
            random = new Random(seed);
            program = new PredictiveGrammar();
            model = new Model();
            terminals = 1 + random.nextInt(random.nextInt(3) == 0 ? 8 : 3);
            nonterminals = 1 + random.nextInt(random.nextInt(4) == 0 ? 8 : 4);
            mostRight = 1 + random.nextInt(5);
            mostProductions = 2 + random.nextInt(random.nextInt(6) == 0 ? 24 : 9);
            calls = 0;
            Due.part("seed " + seed);
            prefill();
            while (calls < CALLS) {
                episode();
            }
        }
    }

    /** Kinds of grammars that single productions drawn by chance would hardly make. */
    private void prefill() throws Exception {
        switch (below(5)) {
            case 0:
                prefillChain();
                break;
            case 1:
                prefillChoices();
                break;
            case 2:
                mostProductions = 24;
                for (int i = 0; i < 18 + below(8); i++) {
                    addRandom();
                }
                break;
            default:
                break;
        }
    }

    /** Each nonterminal consists of later ones: long words. */
    private void prefillChain() throws Exception {
        nonterminals = 3 + below(3);
        for (int n = 0; n < nonterminals; n++) {
            for (int times = 1 + below(2); times > 0; times--) {
                int[] args = {n, -1, -1, -1, -1, -1};
                int length = 1 + below(5);
                for (int i = 1; i <= length; i++) {
                    boolean last = n == nonterminals - 1 || below(4) == 0;
                    args[i] = last ? below(terminals) : 10 + n + 1 + below(nonterminals - n - 1);
                }
                call("addProduction", args);
            }
        }
    }

    /** Each production begins with a terminal of its own, or is empty: few conflicts, so inputs are accepted. */
    private void prefillChoices() throws Exception {
        terminals = 2 + below(7);
        nonterminals = 1 + below(4);
        for (int n = 0; n < nonterminals; n++) {
            for (int choice = below(3); choice < terminals; choice += 1 + below(4)) {
                int[] args = {n, choice, -1, -1, -1, -1};
                int length = 1 + below(5);
                for (int i = 2; i <= length; i++) {
                    args[i] = symbol();
                }
                call("addProduction", args);
            }
            if (below(3) > 0) {
                call("addProduction", n, -1, -1, -1, -1, -1);
            }
        }
        mostProductions = model.productionCount() + below(3);
    }

    private int call(String name, int... args) throws Exception {
        Object[] boxed = Arrays.stream(args).boxed().toArray();
        int got = (Integer) programMethods.get(name).invoke(program, boxed);
        int want = (Integer) modelMethods.get(name).invoke(model, boxed);
        calls++;
        Due.due("call " + calls + " " + name + Arrays.toString(args), got, want);
        return want;
    }

    private int below(int bound) {
        return random.nextInt(bound);
    }

    /** Mostly in range, now and then just outside or far off. */
    private int argument(int bound) {
        int dice = below(30);
        return dice == 0 ? -1 : dice == 1 ? bound : dice == 2 ? random.nextInt() : below(Math.max(bound, 1));
    }

    private int symbol() {
        if (below(60) == 0) {
            return List.of(8, 9, 18, -2, 1000, -1).get(below(6));
        }
        return below(100) < 55 ? below(terminals) : 10 + below(nonterminals);
    }

    private void addRandom() throws Exception {
        int[] args = {-1, -1, -1, -1, -1, -1};
        args[0] = below(40) == 0 ? argument(8) : below(nonterminals);
        int length = below(mostRight + 1);
        for (int i = 1; i <= length; i++) {
            args[i] = symbol();
        }
        if (below(60) == 0) {
            args[1 + below(5)] = symbol();
        }
        call("addProduction", args);
    }

    private void episode() throws Exception {
        switch (below(14)) {
            case 0: case 1: case 2:
                for (int i = below(4); i >= 0; i--) {
                    if (model.productionCount() < mostProductions || below(10) == 0) {
                        addRandom();
                    }
                }
                call("changedNonterminals");
                break;
            case 3:
                if (below(3) == 0) {
                    call("removeProduction", argument(model.productionCount()));
                }
                if (below(20) == 0) {
                    call("clear");
                }
                call("changedNonterminals");
                break;
            case 4:
                call(below(2) == 0 ? "leftFactor" : "removeLeftRecursion", argument(nonterminals));
                readReport();
                readProductions();
                break;
            case 5:
                for (int i = below(below(4) == 0 ? 14 : 2); i >= 0; i--) {
                    call("undo");
                }
                call("changedNonterminals");
                readProductions();
                break;
            case 6:
                readSets();
                break;
            case 7:
                readConflicts();
                break;
            case 8: case 9: case 10:
                input();
                parse();
                break;
            case 11:
                recover();
                break;
            case 12:
                repair();
                break;
            default:
                readShortest();
                break;
        }
    }

    private void readProductions() throws Exception {
        int count = call("productionCount");
        for (int i = 0; i < 4; i++) {
            int p = argument(count);
            call("leftSide", p);
            call("rightLength", p);
            call("rightSymbol", p, argument(5));
        }
    }

    private void readSets() throws Exception {
        for (String name : List.of("nullable", "firstSet", "followSet", "productive", "reachable", "leftRecursive")) {
            call(name, argument(8));
            call(name, below(nonterminals));
        }
        call("selectSet", argument(model.productionCount()));
        call("tableEntry", argument(nonterminals), argument(9));
        call("tableEntry", below(nonterminals), below(9));
    }

    private void readShortest() throws Exception {
        int n = argument(nonterminals);
        int length = call("shortestLength", n);
        for (int k = -1; k <= Math.min(length, 41); k += 1 + below(4)) {
            call("shortestTerminal", n, k);
        }
    }

    private void readConflicts() throws Exception {
        int count = call("conflictCount");
        int i = argument(count);
        call("conflict", i, argument(4));
        call("conflictKind", i);
        for (int which = 0; which < 2; which++) {
            int length = call("exampleLength", i, which);
            for (int k = 0; k <= length; k += 1 + below(3)) {
                call("exampleTerminal", i, which, k);
            }
        }
        call("exampleTerminal", i, argument(2), argument(10));
        call("exampleLength", argument(count), argument(2));
        call("check");
        readReport();
    }

    private void readReport() throws Exception {
        int levels = call("failureLevels");
        for (int level = -1; level <= levels; level++) {
            call("failureCode", level);
            call("failureDetail", level);
        }
    }

    private void input() throws Exception {
        if (below(2) == 0) {
            call("clearInput");
        }
        for (int times = below(3); times > 0; times--) {
            int digits = 0;
            for (int i = below(below(5) == 0 ? 9 : 4); i >= 0; i--) {
                digits = digits * 10 + 1 + (below(40) == 0 ? below(10) - 1 : below(terminals));
            }
            call("appendInput", below(60) == 0 ? random.nextInt() : digits);
        }
        call("inputTerminal", argument(10));
    }

    /** Repairs the input and takes the repaired one, so that parsers have something to accept. */
    private void takeRepaired() throws Exception {
        if (call("repair") < 0) {
            return;
        }
        List<Integer> repaired = new ArrayList<>();
        for (int k = 0; model.repairedTerminal(k) >= 0; k++) {
            repaired.add(call("repairedTerminal", k));
        }
        call("clearInput");
        for (int terminal : repaired) {
            call("appendInput", terminal + 1);
        }
    }

    private void parse() throws Exception {
        if (below(2) == 0) {
            takeRepaired();
        }
        int answer = call("parse");
        parseAnswers.merge(Math.min(answer, 0), 1, Integer::sum);
        readReport();
        int length = call("traceLength");
        for (int i = 0; i < 5; i++) {
            call("trace", argument(length));
        }
        int nodes = call("nodeCount");
        for (int i = 0; i < 5; i++) {
            int node = argument(nodes);
            call("nodeSymbol", node);
            call("nodeParent", node);
            call("nodeHeight", node);
        }
    }

    private void recover() throws Exception {
        if (below(2) == 0) {
            call("setSynchronizing", argument(nonterminals), argument(512));
        }
        int count = call("recover");
        for (int i = 0; i <= Math.min(count, 8); i++) {
            for (int what = 0; what < 3; what++) {
                call("error", i, what);
            }
        }
        call("error", argument(10), argument(3));
        call("traceLength");
        call("trace", argument(10));
        call("nodeCount");
        readReport();
    }

    private void repair() throws Exception {
        for (int i = below(3); i > 0; i--) {
            call("setWeight", argument(terminals), argument(10));
        }
        call("repair");
        for (int k = -1; k < 12; k += 1 + below(2)) {
            call("repairedTerminal", k);
        }
    }
}
