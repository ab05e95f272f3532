import java.io.PrintWriter;
import java.io.StringWriter;
import java.lang.reflect.Constructor;
import java.lang.reflect.Field;
import java.lang.reflect.Method;
import java.lang.reflect.Modifier;
import java.nio.file.DirectoryStream;
import java.nio.file.Files;
import java.nio.file.Path;
import java.util.ArrayList;
import java.util.Arrays;
import java.util.List;
import java.util.Map;
import java.util.Optional;
import java.util.Set;
import java.util.TreeMap;
import java.util.TreeSet;
import java.util.regex.Matcher;
import java.util.regex.Pattern;
import java.util.spi.ToolProvider;

/** The face of the class, the rules of the language that can be told from the text, and what calls allocate. */
public final class LanguageTest {
    private static final Path PROGRAM = Path.of("src/main/java/PredictiveGrammar.java");
    private static final String FACE = """
            addProduction 6, removeProduction 1, clear 0, productionCount 0, leftSide 1, rightLength 1, rightSymbol 2,
            nullable 1, firstSet 1, followSet 1, selectSet 1, changedNonterminals 0, productive 1, reachable 1,
            leftRecursive 1, shortestLength 1, shortestTerminal 2, tableEntry 2, conflictCount 0, conflict 2,
            conflictKind 1, exampleLength 2, exampleTerminal 3, check 0, leftFactor 1, removeLeftRecursion 1, undo 0,
            setSynchronizing 2, appendInput 1, clearInput 0, inputTerminal 1, parse 0, recover 0, error 2,
            traceLength 0, trace 1, nodeCount 0, nodeSymbol 1, nodeParent 1, nodeHeight 1, setWeight 2, repair 0,
            repairedTerminal 1, failureLevels 0, failureCode 1, failureDetail 1""";

    public static void main(String[] args) throws Exception {
        face();
        names();
        text();
        callDepth();
        allocation();
        Due.end();
    }

    private static Set<String> faceMethods() {
        return new TreeSet<>(Arrays.asList(FACE.split(",\\s+")));
    }

    private static void face() throws Exception {
        Due.part("the face");
        Class<?> face = PredictiveGrammar.class;
        Due.due("public final", face.getModifiers(), Modifier.PUBLIC | Modifier.FINAL);
        Set<String> found = new TreeSet<>();
        for (Method method : face.getDeclaredMethods()) {
            if (!Modifier.isPrivate(method.getModifiers())) {
                found.add(method.getName() + " " + method.getParameterCount());
                Due.due(method + " is public", method.getModifiers(), Modifier.PUBLIC);
                Due.due(method + " takes and answers int", Arrays.stream(method.getParameterTypes()).allMatch(t -> t == int.class)
                        && method.getReturnType() == int.class);
            }
        }
        Due.due("methods " + found, found.equals(faceMethods()));
        Constructor<?>[] constructors = face.getDeclaredConstructors();
        Due.due("constructors", constructors.length, 1);
        Due.due("parameters", constructors[0].getParameterCount(), 0);
        Due.due("public", constructors[0].getModifiers(), Modifier.PUBLIC);
        List<String> constants = List.of("BAD", "NONE", "FULL", "DUPLICATE", "FAILED", "LIMIT");
        for (int i = 0; i < constants.size(); i++) {
            Field constant = face.getDeclaredField(constants.get(i));
            Due.due(constants.get(i), constant.getInt(null), -1 - i);
            Due.due(constants.get(i), constant.getModifiers(), Modifier.PUBLIC | Modifier.STATIC | Modifier.FINAL);
        }
        for (Field field : face.getDeclaredFields()) {
            Due.due(field + " is private", constants.contains(field.getName()) || Modifier.isPrivate(field.getModifiers()));
        }
    }

    private static void names() {
        Due.part("names and sizes");
        Set<String> publicNames = new TreeSet<>();
        for (String method : faceMethods()) {
            publicNames.add(method.split(" ")[0]);
        }
        Class<?>[] inside = PredictiveGrammar.class.getDeclaredClasses();
        Due.due("some twelve classes: " + (inside.length + 1), inside.length + 1 <= 12);
        for (Class<?> one : inside) {
            Due.due(one + " is private and static", (one.getModifiers() & (Modifier.PRIVATE | Modifier.STATIC)),
                    Modifier.PRIVATE | Modifier.STATIC);
            for (Method method : one.getDeclaredMethods()) {
                Due.due(method + " has a name of its own", !publicNames.contains(method.getName()));
                Due.due(method + " takes at most seven", method.getParameterCount() <= 7);
            }
            long fields = Arrays.stream(one.getDeclaredFields()).filter(f -> !Modifier.isStatic(f.getModifiers())).count();
            Due.due(one + " has some twenty fields", fields <= 20);
            for (Field field : one.getDeclaredFields()) {
                Due.due(field + " is no static state", !Modifier.isStatic(field.getModifiers())
                        || Modifier.isFinal(field.getModifiers()) && field.getType().isPrimitive());
            }
        }
        for (Method method : PredictiveGrammar.class.getDeclaredMethods()) {
            Due.due(method + " has a name of its own",
                    !Modifier.isPrivate(method.getModifiers()) || !publicNames.contains(method.getName()));
        }
    }

    private static void text() throws Exception {
        Due.part("the text");
        String text = Files.readString(PROGRAM).replaceAll("(?s)/\\*.*?\\*/", "").replaceAll("//[^\n]*", "");
        Pattern forbidden = Pattern.compile("\\b(throw|throws|try|catch|finally|synchronized|assert|import|package|volatile"
                + "|native|strictfp|transient|Object|Exception|Error|Random|Thread|System\\.(?!arraycopy)\\w+)\\b|->|::|\\w+Exact\\b|@\\w+|%=|\"");
        Matcher matcher = forbidden.matcher(text);
        while (matcher.find()) {
            Due.due("the text has '" + matcher.group() + "'", false);
        }
        Matcher loops = Pattern.compile("while \\(true\\)|for \\(;|for \\([^;]*;\\s*;").matcher(text);
        Due.due("a loop without an end", !loops.find());
        Matcher divisions = Pattern.compile("[/%]=? *(\\w+)").matcher(text);
        while (divisions.find()) {
            Due.due("divisor " + divisions.group(1), divisions.group(1).matches("[1-9]\\d*|[A-Z_]+"));
        }
        methodLengths(text);
    }

    private static void methodLengths(String text) {
        String[] lines = text.split("\n");
        int start = -1;
        for (int i = 0; i < lines.length; i++) {
            if (lines[i].matches(" {4,8}(public |private |static )*[\\w\\[\\]]+ ?\\w*\\(.*\\{")) {
                start = i;
            }
            if (start >= 0 && lines[i].matches(" {4,8}\\}") && lines[i].indexOf('}') <= indent(lines[start])) {
                Due.due("lines of " + lines[start].trim() + ": " + (i - start + 1), i - start + 1 <= 60);
                start = -1;
            }
        }
    }

    /** The calls are read from the compiled classes, as the text does not tell whose method is called. */
    private static void callDepth() throws Exception {
        Due.part("the depth of calls");
        Path classes = Path.of(PredictiveGrammar.class.getProtectionDomain().getCodeSource().getLocation().toURI());
        List<String> arguments = new ArrayList<>(List.of("-c", "-p"));
        try (DirectoryStream<Path> files = Files.newDirectoryStream(classes, "PredictiveGrammar*.class")) {
            files.forEach(file -> arguments.add(file.toString()));
        }
        Optional<ToolProvider> javap = ToolProvider.findFirst("javap");
        if (javap.isEmpty()) {
            System.out.println("no javap here: the depth of calls is not looked at");
            return;
        }
        StringWriter listing = new StringWriter();
        PrintWriter out = new PrintWriter(listing);
        javap.get().run(out, out, arguments.toArray(String[]::new));
        Map<String, Set<String>> calls = calls(listing.toString());
        Due.due("methods " + calls.size(), calls.size() > 150);
        for (String method : calls.keySet()) {
            Due.due(method + " goes " + depth(method, calls, 0) + " deep", depth(method, calls, 0) <= 8);
        }
    }

    /** For each method of the program, those that it calls; methods of one name are taken as one. */
    private static Map<String, Set<String>> calls(String listing) {
        Pattern type = Pattern.compile("^(?:\\w+ )*class (\\S+)");
        Pattern method = Pattern.compile("^  \\w.*?([\\w$]+)\\(.*\\);$");
        Pattern call = Pattern.compile("invoke\\w+ .*// Method (?:(PredictiveGrammar[\\w$]*)\\.)?\"?([\\w<>]+)\"?:");
        Map<String, Set<String>> calls = new TreeMap<>();
        String owner = "";
        String caller = "";
        for (String line : listing.split("\n")) {
            Matcher found = type.matcher(line);
            if (found.find()) {
                owner = found.group(1);
            }
            found = method.matcher(line);
            if (found.find()) {
                caller = owner + "." + (found.group(1).equals(owner) ? "<init>" : found.group(1));
                calls.putIfAbsent(caller, new TreeSet<>());
            }
            found = call.matcher(line);
            if (found.find() && !line.contains("Method java/")) {
                calls.get(caller).add((found.group(1) == null ? owner : found.group(1)) + "." + found.group(2));
            }
        }
        return calls;
    }

    private static int depth(String method, Map<String, Set<String>> calls, int above) {
        int deepest = 0;
        for (String called : calls.getOrDefault(method, Set.of())) {
            deepest = above > 20 ? 20 : Math.max(deepest, depth(called, calls, above + 1));
        }
        return 1 + deepest;
    }

    private static int indent(String line) {
        return line.length() - line.stripLeading().length();
    }

    /** After the constructor, nothing is allocated: so a run of calls stays within its room. */
    private static void allocation() {
        Due.part("allocation");
        com.sun.management.ThreadMXBean threads =
                (com.sun.management.ThreadMXBean) java.lang.management.ManagementFactory.getThreadMXBean();
        PredictiveGrammar x = new PredictiveGrammar();
        int sum = useAll(x);
        long before = threads.getCurrentThreadAllocatedBytes();
        threads.getCurrentThreadAllocatedBytes();
        long idle = threads.getCurrentThreadAllocatedBytes() - before;
        before = threads.getCurrentThreadAllocatedBytes();
        for (int i = 0; i < 10; i++) {
            sum += useAll(x);
        }
        long used = threads.getCurrentThreadAllocatedBytes() - before;
        Due.due("allocated by ten rounds of calls: " + used + " (" + sum + ")", used <= idle + 1000);
        before = threads.getCurrentThreadAllocatedBytes();
        new PredictiveGrammar();
        used = threads.getCurrentThreadAllocatedBytes() - before;
        Due.due("allocated by a constructor: " + used, used < 60000);
    }

    private static int useAll(PredictiveGrammar x) {
        x.clear();
        x.clearInput();
        x.addProduction(0, 10, 0, 1, -1, -1);
        x.addProduction(0, 0, 11, -1, -1, -1);
        x.addProduction(0, 0, 1, -1, -1, -1);
        x.addProduction(1, -1, -1, -1, -1, -1);
        x.appendInput(1121);
        int sum = x.check() + x.parse() + x.recover() + x.repair() + x.exampleLength(0, 0) + x.shortestLength(0);
        sum += x.leftRecursive(0) + x.productive(0) + x.reachable(0) + x.changedNonterminals();
        sum += x.removeLeftRecursion(0) + x.leftFactor(0) + x.parse() + x.undo() + x.removeProduction(0);
        return sum;
    }
}
