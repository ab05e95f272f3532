/** Compares answers with what is due, counts the wrong ones and ends the test. */
final class Due {
    private static int answers = 0;
    private static int wrong = 0;
    private static String part = "";

    private Due() {
    }

    static void part(String name) {
        part = name;
    }

    static void due(String call, long got, long want) {
        answers++;
        if (got != want) {
            wrong++;
            if (wrong <= 50) {
                System.out.println(part + ": " + call + " answered " + got + ", due is " + want);
            }
        }
    }

    static void due(String call, boolean holds) {
        due(call, holds ? 1 : 0, 1);
    }

    static int answers() {
        return answers;
    }

    static void end() {
        System.out.println(wrong == 0 ? answers + " answers are as due" : wrong + " of " + answers + " answers are not as due");
        if (wrong != 0) {
            System.exit(1);
        }
    }
}
