import java.util.ArrayList;
import java.util.Comparator;
import java.util.HashSet;
import java.util.List;
import java.util.Random;
import java.util.Set;

/**
 * Shortest strings, examples and least insertions of small grammars against all strings up to a length.
 * What the program answers beyond that length is not looked at, but that it is beyond.
 */
public final class BruteForceTest {
    private static final int GRAMMARS = 1500;
    private static final int NONTERMINALS = 3;
    private static final Comparator<String> SHORTEST =
            Comparator.comparing(String::length).thenComparing(Comparator.naturalOrder());

    /** What stands before the place where a production is used, and what stands behind. */
    private record Split(String before, String behind) {
        String whole() {
            return before + behind;
        }
    }

    private final Random random;
    private final PredictiveGrammar program = new PredictiveGrammar();
    private final List<int[]> productions = new ArrayList<>();
    private final int terminals;
    private final int longest;
    private final List<Set<String>> languages = new ArrayList<>();

    public static void main(String[] args) {
        for (int seed = 0; seed < GRAMMARS; seed++) {
            Due.part("grammar " + seed);
            new BruteForceTest(new Random(seed)).compare();
        }
        Due.end();
    }

    private BruteForceTest(Random random) {
        this.random = random;
        terminals = 1 + random.nextInt(3);
        longest = terminals == 3 ? 5 : 6;
        for (int i = 2 + random.nextInt(6); i > 0; i--) {
            addProduction();
        }
        for (int n = 0; n < NONTERMINALS; n++) {
            languages.add(new HashSet<>());
        }
        for (boolean changed = true; changed;) {
            changed = false;
            for (int[] production : productions) {
                changed |= languages.get(production[0]).addAll(strings(production, 1, 6));
            }
        }
    }

    private void addProduction() {
        int[] production = {random.nextInt(NONTERMINALS), -1, -1, -1, -1, -1};
        int length = random.nextInt(4);
        for (int i = 1; i <= length; i++) {
            production[i] = random.nextInt(2) == 0 ? random.nextInt(terminals) : 10 + random.nextInt(NONTERMINALS);
        }
        if (program.addProduction(production[0], production[1], production[2], production[3], -1, -1) >= 0) {
            productions.add(production);
        }
    }

    private Set<String> strings(int[] production, int from, int to) {
        Set<String> found = Set.of("");
        for (int i = from; i < to && production[i] >= 0; i++) {
            Set<String> parts = production[i] < 8 ? Set.of("" + production[i]) : languages.get(production[i] - 10);
            Set<String> longer = new HashSet<>();
            for (String head : found) {
                for (String tail : parts) {
                    if (head.length() + tail.length() <= longest) {
                        longer.add(head + tail);
                    }
                }
            }
            found = longer;
        }
        return found;
    }

    private void compare() {
        for (int n = 0; n < NONTERMINALS; n++) {
            int nonterminal = n;
            compareWord("shortest string of " + n, least(languages.get(n), SHORTEST), program.shortestLength(n),
                    k -> program.shortestTerminal(nonterminal, k));
        }
        int conflicts = program.conflictCount();
        for (int times = 0; times < 6 && conflicts > 0; times++) {
            int i = random.nextInt(conflicts);
            int which = random.nextInt(2);
            compareWord("example " + i + " " + which, example(program.conflict(i, 2 + which), program.conflict(i, 1)),
                    program.exampleLength(i, which), k -> program.exampleTerminal(i, which, k));
        }
        for (int times = 0; times < 4; times++) {
            compareRepair();
        }
    }

    private interface Word {
        int terminal(int k);
    }

    private void compareWord(String what, String want, int length, Word word) {
        if (want == null) {
            Due.due(what + " has length " + length + ", but none is due", length == -2 || length > longest);
            return;
        }
        Due.due("length of " + what, length, want.length());
        for (int k = 0; k < want.length(); k++) {
            Due.due(what + " at " + k, word.terminal(k), want.charAt(k) - '0');
        }
        Due.due(what + " at its end", word.terminal(want.length()), -2);
    }

    private static String least(Set<String> strings, Comparator<String> order) {
        return strings.stream().min(order).orElse(null);
    }

    private String example(int marked, int token) {
        List<Set<Split>> splits = new ArrayList<>();
        for (int n = 0; n < NONTERMINALS; n++) {
            splits.add(new HashSet<>());
        }
        for (String behind : strings(productions.get(marked), 1, 6)) {
            splits.get(productions.get(marked)[0]).add(new Split("", behind));
        }
        for (boolean changed = true; changed;) {
            changed = false;
            for (int[] production : productions) {
                for (int i = 1; i < 6 && production[i] >= 0; i++) {
                    if (production[i] >= 10) {
                        changed |= splits.get(production[0]).addAll(widened(production, i, splits.get(production[i] - 10)));
                    }
                }
            }
        }
        Set<String> found = new HashSet<>();
        for (Split split : splits.get(0)) {
            if ((split.behind() + "8").charAt(0) - '0' == token) {
                found.add(split.whole());
            }
        }
        return least(found, SHORTEST);
    }

    private Set<Split> widened(int[] production, int i, Set<Split> inner) {
        Set<Split> found = new HashSet<>();
        for (Split split : inner) {
            for (String head : strings(production, 1, i)) {
                for (String tail : strings(production, i + 1, 6)) {
                    if (head.length() + split.whole().length() + tail.length() <= longest) {
                        found.add(new Split(head + split.before(), split.behind() + tail));
                    }
                }
            }
        }
        return found;
    }

    private void compareRepair() {
        int[] weights = {1 + random.nextInt(9), 1 + random.nextInt(9), 1 + random.nextInt(2)};
        for (int t = 0; t < 3; t++) {
            program.setWeight(t, weights[t]);
        }
        program.clearInput();
        String input = "";
        for (int i = random.nextInt(4); i > 0; i--) {
            int terminal = random.nextInt(terminals);
            program.appendInput(terminal + 1);
            input += terminal;
        }
        Set<String> found = new HashSet<>();
        for (String string : languages.get(0)) {
            if (isWithin(input, string)) {
                found.add(string);
            }
        }
        String want = least(found, Comparator.comparing(String::length)
                .thenComparing(string -> string.chars().map(c -> weights[c - '0']).sum())
                .thenComparing(Comparator.naturalOrder()));
        int inserted = program.repair();
        compareWord("repair of " + input, want, inserted < 0 ? inserted : inserted + input.length(), program::repairedTerminal);
    }

    private static boolean isWithin(String input, String string) {
        int at = 0;
        for (int i = 0; i < string.length() && at < input.length(); i++) {
            if (string.charAt(i) == input.charAt(at)) {
                at++;
            }
        }
        return at == input.length();
    }
}
